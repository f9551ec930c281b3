def ss_dj (v w : ss_V) : Prop := v.1 = w.1 → v.2.2.1.toInt ≤ w.2.1.toInt ∨ w.2.2.1.toInt ≤ v.2.1.toInt
def ss_gd (ck rc : Nat) (v : ss_V) : Prop :=
  v.1.toInt < (rc : Int) ∧ v.2.1.toInt ≤ (ck : Int) ∧ v.2.1.toInt < v.2.2.1.toInt ∧ (v.2.2.1.toInt = 2147483647 ∨ v.2.2.1.toInt ≤ (ck : Int))
def ss_n (cc : Nat → Int32) (t : Nat) : Nat := (cc t).toNatClampNeg
def ss_on (o cc : Nat → Int32) (t i : Nat) : Prop := t < 4 ∧ ¬ o t = 0 ∧ i < ss_n cc t
def ss_ok (ck rc : Nat) (o cc cr ci : Nat → Int32) (L : List ss_V) : Prop :=
  (∀ v ∈ L, ss_gd ck rc v) ∧ L.Pairwise ss_dj ∧ (∀ v ∈ L, ∀ t i, ss_on o cc t i → ¬ ci (8 * t + i) = 0 → ¬ v.1 = cr (8 * t + i))
def ss_cv (ck rc : Nat) (o s cc cr ci : Nat → Int32) (L : List ss_V) : Prop :=
  (∀ t, t < 4 → ¬ o t = 0 → cc t = nI (ss_n cc t) ∧ ss_n cc t ≤ 8 ∧ (s t).toInt ≤ (ck : Int)) ∧
  (∀ t i, ss_on o cc t i → (cr (8 * t + i)).toInt < (rc : Int)) ∧
  (∀ t i j, ss_on o cc t i → ss_on o cc t j → i ≠ j → ¬ cr (8 * t + i) = cr (8 * t + j)) ∧
  (∀ t i t' j, ss_on o cc t i → ss_on o cc t' j → ¬ ci (8 * t + i) = 0 → ¬ ci (8 * t' + j) = 0 → t ≠ t' → ¬ cr (8 * t + i) = cr (8 * t' + j)) ∧
  (∀ t i, ss_on o cc t i → ci (8 * t + i) = 0 → ∃ w ∈ L, w.1 = cr (8 * t + i) ∧ ss_hd w (s t) = true)
def ss_I (k ck rc : Nat) (o s cc cr ci : Nat → Int32) (LX LY : List ss_V) : Prop :=
  ck ≤ k ∧ rc ≤ k ∧ LX.filter (ss_lv (nI ck) o s) = LY.filter (ss_lv (nI ck) o s) ∧ (LY.filter (ss_lv (nI ck) o s)).length ≤ 40 ∧
  ss_ok ck rc o cc cr ci LX ∧ ss_ok ck rc o cc cr ci LY ∧ ss_cv ck rc o s cc cr ci LX
def ss_wr (ws wk wl wm yk yl ym : Nat → Int32) : Prop :=
  ∀ j, j < 2 → (∃ c, c < 3 ∧ wk j = nI c) ∧ ((ws j = 0 ∧ yk j < 0) ∨ (¬ ws j = 0 ∧ yk j = wk j ∧ yl j = wl j ∧ ym j = wm j))
def i_Rel (k : Nat) (u : SX) (v : SY) : Prop :=
  ∃ (ck rc nx ny : Nat) (xf yf : Int32) (R F T N VR VF VT VN o s cc cr ci cg cn ws wk wl wm fr fi yk yl ym sr si ke : Nat → Int32),
    u = (nI ck, nI rc, nI nx, xf, R, F, T, N, o, s, cc, cr, ci, cg, cn, ws, wk, wl, wm, fr, fi) ∧ v = (nI ny, nI ck, nI rc, yf, VR, VF, VT, VN, o, s, cc, cr, ci, cg, cn, yk, yl, ym, sr, si, ke) ∧
    nx ≤ 40 ∧ ny ≤ 48 ∧ ss_I k ck rc o s cc cr ci (ss_L (ss_at R F T N) 0 nx) (ss_L (ss_at VR VF VT VN) 0 ny) ∧ ss_wr ws wk wl wm yk yl ym
theorem ss_I_up {k ck rc : Nat} {o s cc cr ci : Nat → Int32} {LX LY : List ss_V} (h : ss_I k ck rc o s cc cr ci LX LY) : ss_I (k + 6) ck rc o s cc cr ci LX LY := by
  obtain ⟨h1, h2, h3⟩ := h
  exact ⟨by omega, by omega, h3⟩
theorem i_up {k : Nat} {u : SX} {v : SY} (h : i_Rel k u v) : i_Rel (k + 6) u v := by
  obtain ⟨ck, rc, nx, ny, xf, yf, R, F, T, N, VR, VF, VT, VN, o, s, cc, cr, ci, cg, cn, ws, wk, wl, wm, fr, fi, yk, yl, ym, sr, si, ke, eu, ev, h1, h2, h3, h4⟩ := h
  exact ⟨ck, rc, nx, ny, xf, yf, R, F, T, N, VR, VF, VT, VN, o, s, cc, cr, ci, cg, cn, ws, wk, wl, wm, fr, fi, yk, yl, ym, sr, si, ke, eu, ev, h1, h2, ss_I_up h3, h4⟩
theorem ss_flt {LX LY : List ss_V} {P Q : ss_V → Bool} (h : LX.filter Q = LY.filter Q) (hX : ∀ v ∈ LX, P v = true → Q v = true) (hY : ∀ v ∈ LY, P v = true → Q v = true) : LX.filter P = LY.filter P := by
  have g : ∀ L : List ss_V, (∀ v ∈ L, P v = true → Q v = true) → L.filter P = (L.filter Q).filter P := by
    intro L hL
    rw [List.filter_filter]
    refine List.filter_congr (fun v hv => ?_)
    cases hp : P v with
    | false => rfl
    | true => rw [hL v hv hp]; rfl
  rw [g LX hX, g LY hY, h]
theorem ss_flt' {LX LY : List ss_V} {P Q : ss_V → Bool} (h : LX.filter Q = LY.filter Q) (hX : ∀ v, P v = true → Q v = true) : LX.filter P = LY.filter P :=
  ss_flt h (fun v _ => hX v) (fun v _ => hX v)
theorem ss_cnt {LX LY : List ss_V} {P : ss_V → Bool} (h : LX.filter P = LY.filter P) : LX.countP P = LY.countP P := by
  rw [List.countP_eq_length_filter, List.countP_eq_length_filter, h]
theorem ss_fnd {LX LY : List ss_V} {P : ss_V → Bool} (h : LX.filter P = LY.filter P) : LX.find? P = LY.find? P := by
  rw [← List.head?_filter, ← List.head?_filter, h]
theorem ss_tr {L M : List ss_V} {Q : ss_V → Bool} (h : L.filter Q = M.filter Q) {w : ss_V} (hw : w ∈ L) (hq : Q w = true) : w ∈ M := by
  have : w ∈ M.filter Q := by rw [← h]; exact List.mem_filter.mpr ⟨hw, hq⟩
  exact (List.mem_filter.mp this).1
theorem ss_bool {a b : Bool} (h : a = true ↔ b = true) : a = b := by
  cases a <;> cases b <;> simp_all
theorem ss_lv_t {c : Int32} {o s : Nat → Int32} {v : ss_V} {t : Nat} (ht : t < 4) (ho : ¬ o t = 0) (h : ss_hd v (s t) = true) : ss_lv c o s v = true :=
  ss_lv_iff.mpr (Or.inr ⟨t, ht, ho, h⟩)
theorem ss_I_begin {k ck rc t : Nat} {o s cc cr ci : Nat → Int32} {LX LY : List ss_V} (h : ss_I k ck rc o s cc cr ci LX LY) (hk : k < 2 ^ 31) (ht : t < 4) (ho : o t = 0) :
    ss_I k ck rc (upd o t 1) (upd s t (nI ck)) (upd cc t 0) cr ci LX LY := by
  obtain ⟨h1, h2, h3, h4, hX, hY, hC⟩ := h
  have hl : ss_lv (nI ck) (upd o t 1) (upd s t (nI ck)) = ss_lv (nI ck) o s := by
    funext v
    refine ss_bool ?_
    rw [ss_lv_iff, ss_lv_iff]
    constructor
    · rintro (h | ⟨u, hu, h5, h6⟩)
      · exact Or.inl h
      · by_cases e : u = t
        · subst e; rw [ss_us] at h6; exact Or.inl h6
        · rw [ss_un e] at h5 h6; exact Or.inr ⟨u, hu, h5, h6⟩
    · rintro (h | ⟨u, hu, h5, h6⟩)
      · exact Or.inl h
      · have e : u ≠ t := fun e => h5 (e ▸ ho)
        exact Or.inr ⟨u, hu, by rw [ss_un e]; exact h5, by rw [ss_un e]; exact h6⟩
  have hn : ss_n (upd cc t 0) t = 0 := by unfold ss_n; rw [ss_us]; rfl
  have hn' : ∀ u, u ≠ t → ss_n (upd cc t 0) u = ss_n cc u := by intro u e; unfold ss_n; rw [ss_un e]
  have hon : ∀ u i, ss_on (upd o t 1) (upd cc t 0) u i → u ≠ t ∧ ss_on o cc u i := by
    intro u i ⟨a, b, c⟩
    by_cases e : u = t
    · subst e; rw [hn] at c; omega
    · rw [ss_un e] at b; rw [hn' u e] at c; exact ⟨e, a, b, c⟩
  have hok : ∀ L, ss_ok ck rc o cc cr ci L → ss_ok ck rc (upd o t 1) (upd cc t 0) cr ci L := by
    intro L ⟨a, b, c⟩
    exact ⟨a, b, fun v hv u i hu => c v hv u i (hon u i hu).2⟩
  refine ⟨h1, h2, by rw [hl]; exact h3, by rw [hl]; exact h4, hok _ hX, hok _ hY, ?_⟩
  obtain ⟨c1, c2, c3, c4, c5⟩ := hC
  refine ⟨?_, fun u i hu => c2 u i (hon u i hu).2, fun u i j hu hj => c3 u i j (hon u i hu).2 (hon u j hj).2, fun u i u' j hu hj => c4 u i u' j (hon u i hu).2 (hon u' j hj).2, ?_⟩
  · intro u hu h5
    by_cases e : u = t
    · subst e; rw [hn, ss_us, ss_us, nI_toInt (by omega)]; exact ⟨rfl, by omega, by omega⟩
    · rw [ss_un e] at h5; rw [hn' u e, ss_un e, ss_un e]; exact c1 u hu h5
  · intro u i hu h5
    obtain ⟨e, hu'⟩ := hon u i hu
    rw [ss_un e]; exact c5 u i hu' h5
theorem ss_I_close {k ck rc t : Nat} {o s cc cr ci : Nat → Int32} {LX LY : List ss_V} (h : ss_I k ck rc o s cc cr ci LX LY) :
    ss_I k ck rc (upd o t 0) s cc cr ci LX LY := by
  obtain ⟨h1, h2, h3, h4, hX, hY, hC⟩ := h
  have hl : ∀ v, ss_lv (nI ck) (upd o t 0) s v = true → ss_lv (nI ck) o s v = true := by
    intro v
    rw [ss_lv_iff, ss_lv_iff]
    rintro (h | ⟨u, hu, h5, h6⟩)
    · exact Or.inl h
    · by_cases e : u = t
      · subst e; rw [ss_us] at h5; exact absurd rfl h5
      · rw [ss_un e] at h5; exact Or.inr ⟨u, hu, h5, h6⟩
  have hon : ∀ u i, ss_on (upd o t 0) cc u i → ss_on o cc u i := by
    intro u i ⟨a, b, c⟩
    by_cases e : u = t
    · subst e; rw [ss_us] at b; exact absurd rfl b
    · rw [ss_un e] at b; exact ⟨a, b, c⟩
  have hok : ∀ L, ss_ok ck rc o cc cr ci L → ss_ok ck rc (upd o t 0) cc cr ci L := by
    intro L ⟨a, b, c⟩
    exact ⟨a, b, fun v hv u i hu => c v hv u i (hon u i hu)⟩
  refine ⟨h1, h2, ss_flt' h3 hl, ?_, hok _ hX, hok _ hY, ?_⟩
  · rw [← List.countP_eq_length_filter]
    rw [← List.countP_eq_length_filter] at h4
    exact Nat.le_trans (List.countP_mono_left (fun v _ => hl v)) h4
  obtain ⟨c1, c2, c3, c4, c5⟩ := hC
  refine ⟨?_, fun u i hu => c2 u i (hon u i hu), fun u i j hu hj => c3 u i j (hon u i hu) (hon u j hj), fun u i u' j hu hj => c4 u i u' j (hon u i hu) (hon u' j hj), fun u i hu => c5 u i (hon u i hu)⟩
  intro u hu h5
  by_cases e : u = t
  · subst e; rw [ss_us] at h5; exact absurd rfl h5
  · rw [ss_un e] at h5; exact c1 u hu h5
/-- t changes one row more -/
theorem ss_I_add {k ck rc rc' t cnt : Nat} {row f : Int32} {o s cc cr ci : Nat → Int32} {LX LY : List ss_V} (h : ss_I k ck rc o s cc cr ci LX LY)
    (ht : t < 4) (ho : ¬ o t = 0) (hc : cc t = nI cnt) (h8 : cnt < 8) (hr : rc ≤ rc') (hrk : rc' ≤ k + 6) (hrow : row.toInt < (rc' : Int))
    (hnew : ∀ i, ss_on o cc t i → ¬ cr (8 * t + i) = row)
    (hf1 : ¬ f = 0 → (∀ v, v ∈ LX → ¬ v.1 = row) ∧ (∀ v, v ∈ LY → ¬ v.1 = row) ∧ (∀ u i, ss_on o cc u i → ¬ cr (8 * u + i) = row))
    (hf0 : f = 0 → ∃ w ∈ LX, w.1 = row ∧ ss_hd w (s t) = true) :
    ss_I (k + 6) ck rc' o s (upd cc t (nI (cnt + 1))) (upd cr (8 * t + cnt) row) (upd ci (8 * t + cnt) f) LX LY := by
  obtain ⟨h1, h2, h3, h4, hX, hY, hC⟩ := h
  have hnt : ss_n cc t = cnt := by unfold ss_n; rw [hc, nI_clamp (by omega)]
  have hn : ss_n (upd cc t (nI (cnt + 1))) t = cnt + 1 := by unfold ss_n; rw [ss_us, nI_clamp (by omega)]
  have hn' : ∀ u, u ≠ t → ss_n (upd cc t (nI (cnt + 1))) u = ss_n cc u := by intro u e; unfold ss_n; rw [ss_un e]
  have hle : ∀ u i, ss_on o cc u i → i < 8 := by
    intro u i ⟨a, b, c⟩
    have := (hC.1 u a b).2.1
    omega
  have hon : ∀ u i, ss_on o (upd cc t (nI (cnt + 1))) u i → (u = t ∧ i = cnt) ∨ (ss_on o cc u i ∧ 8 * u + i ≠ 8 * t + cnt) := by
    intro u i ⟨a, b, c⟩
    by_cases e : u = t
    · subst e
      rw [hn] at c
      by_cases e2 : i = cnt
      · exact Or.inl ⟨rfl, e2⟩
      · exact Or.inr ⟨⟨a, b, by omega⟩, by omega⟩
    · rw [hn' u e] at c
      have h9 : ss_on o cc u i := ⟨a, b, c⟩
      have := hle u i h9
      exact Or.inr ⟨h9, by omega⟩
  have hok : ∀ L, (¬ f = 0 → ∀ v, v ∈ L → ¬ v.1 = row) → ss_ok ck rc o cc cr ci L → ss_ok ck rc' o (upd cc t (nI (cnt + 1))) (upd cr (8 * t + cnt) row) (upd ci (8 * t + cnt) f) L := by
    intro L hf ⟨a, b, c⟩
    refine ⟨fun v hv => ?_, b, fun v hv u i hu => ?_⟩
    · obtain ⟨a1, a2, a3, a4⟩ := a v hv
      exact ⟨by omega, a2, a3, a4⟩
    · rcases hon u i hu with ⟨rfl, rfl⟩ | ⟨hu', e⟩
      · rw [ss_us, ss_us]; exact fun hz => hf hz v hv
      · rw [ss_un e, ss_un e]; exact c v hv u i hu'
  refine ⟨by omega, hrk, h3, h4, hok _ (fun z => (hf1 z).1) hX, hok _ (fun z => (hf1 z).2.1) hY, ?_⟩
  obtain ⟨c1, c2, c3, c4, c5⟩ := hC
  refine ⟨?_, ?_, ?_, ?_, ?_⟩
  · intro u hu h5
    by_cases e : u = t
    · subst e; rw [hn, ss_us]; exact ⟨rfl, by omega, (c1 u hu h5).2.2⟩
    · rw [hn' u e, ss_un e]; exact c1 u hu h5
  · intro u i hu
    rcases hon u i hu with ⟨rfl, rfl⟩ | ⟨hu', e⟩
    · rw [ss_us]; exact hrow
    · rw [ss_un e]; have := c2 u i hu'; omega
  · intro u i j hu hj hij
    rcases hon u i hu with ⟨rfl, rfl⟩ | ⟨hu', e⟩
    · rcases hon u j hj with ⟨_, rfl⟩ | ⟨hj', e'⟩
      · exact absurd rfl hij
      · rw [ss_us, ss_un e']; exact fun z => hnew j hj' z.symm
    · rcases hon u j hj with ⟨rfl, rfl⟩ | ⟨hj', e'⟩
      · rw [ss_us, ss_un e]; exact hnew i hu'
      · rw [ss_un e, ss_un e']; exact c3 u i j hu' hj' hij
  · intro u i u' j hu hj hzi hzj hne
    rcases hon u i hu with ⟨rfl, rfl⟩ | ⟨hu', e⟩
    · rcases hon u' j hj with ⟨rfl, rfl⟩ | ⟨hj', e'⟩
      · exact absurd rfl hne
      · rw [ss_us] at hzi; rw [ss_us, ss_un e']; exact fun z => (hf1 hzi).2.2 u' j hj' z.symm
    · rcases hon u' j hj with ⟨rfl, rfl⟩ | ⟨hj', e'⟩
      · rw [ss_us] at hzj; rw [ss_us, ss_un e]; exact (hf1 hzj).2.2 u i hu'
      · rw [ss_un e] at hzi; rw [ss_un e'] at hzj; rw [ss_un e, ss_un e']; exact c4 u i u' j hu' hj' hzi hzj hne
  · intro u i hu hz
    rcases hon u i hu with ⟨rfl, rfl⟩ | ⟨hu', e⟩
    · rw [ss_us] at hz; rw [ss_us]; exact hf0 hz
    · rw [ss_un e] at hz; rw [ss_un e]; exact c5 u i hu' hz
theorem ss_I_pack {k ck rc : Nat} {o s cc cr ci : Nat → Int32} {LX LY : List ss_V} (h : ss_I k ck rc o s cc cr ci LX LY) :
    ss_I k ck rc o s cc cr ci (LX.filter (ss_lv (nI ck) o s)) LY := by
  obtain ⟨h1, h2, h3, h4, ⟨a, b, c⟩, hY, c1, c2, c3, c4, c5⟩ := h
  refine ⟨h1, h2, ?_, h4, ⟨fun v hv => a v (List.mem_filter.mp hv).1, b.sublist List.filter_sublist, fun v hv => c v (List.mem_filter.mp hv).1⟩, hY, c1, c2, c3, c4, ?_⟩
  · rw [List.filter_filter]
    rw [← h3]
    refine List.filter_congr (fun v _ => ?_)
    rw [Bool.and_self]
  · intro u i hu hz
    obtain ⟨w, hw, hw1, hw2⟩ := c5 u i hu hz
    exact ⟨w, List.mem_filter.mpr ⟨hw, ss_lv_t hu.1 hu.2.1 hw2⟩, hw1, hw2⟩
