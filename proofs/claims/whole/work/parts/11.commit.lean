theorem ss_pw {α : Type} {r : α → α → Prop} {L : List α} (h : L.Pairwise r) {v w : α} (hv : v ∈ L) (hw : w ∈ L) : v = w ∨ r v w ∨ r w v := by
  induction L with
  | nil => exact absurd hv List.not_mem_nil
  | cons a L ih =>
    rw [List.pairwise_cons] at h
    rcases List.mem_cons.mp hv with rfl | hv'
    · rcases List.mem_cons.mp hw with rfl | hw'
      · exact Or.inl rfl
      · exact Or.inr (Or.inl (h.1 w hw'))
    · rcases List.mem_cons.mp hw with rfl | hw'
      · exact Or.inr (Or.inr (h.1 v hv'))
      · exact ih h.2 hv' hw'
theorem ss_af_iff {st : Int32} {v : ss_V} : ss_af st v = true ↔ st.toInt < v.2.1.toInt ∨ (v.2.2.1.toInt ≠ 2147483647 ∧ st.toInt < v.2.2.1.toInt) := by
  unfold ss_af
  rw [Bool.or_eq_true, decide_eq_true_iff, decide_eq_true_iff]
theorem ss_afw {ck rc : Nat} {L : List ss_V} {st : Int32} {v w : ss_V} (hg : ∀ v ∈ L, ss_gd ck rc v) (hp : L.Pairwise ss_dj) (hk : ck < 2147483647) (hw : w ∈ L) (hh : ss_hd w st = true) (hv : v ∈ L) (hr : v.1 = w.1) (ha : ss_af st v = true) : w.2.2.1.toInt ≠ 2147483647 := by
  rw [ss_hd_iff] at hh
  rw [ss_af_iff] at ha
  obtain ⟨_, g1, g2, g3⟩ := hg v hv
  rcases ss_pw hp hv hw with rfl | h | h
  · rcases ha with ha | ha
    · omega
    · exact ha.1
  · have h' := h hr
    omega
  · have h' := h hr.symm
    omega
theorem ss_cf_iff {st : Int32} {cr ci : Nat → Int32} {L : List ss_V} : ∀ d i, ss_cf st cr ci L i d = true ↔ ∃ j, i ≤ j ∧ j < i + d ∧ ci j = 0 ∧ ∃ v ∈ L, v.1 = cr j ∧ ss_af st v = true := by
  intro d
  have hk : ∀ k, L.any (ss_ck st cr ci k) = true ↔ (ci k = 0 ∧ ∃ v ∈ L, v.1 = cr k ∧ ss_af st v = true) := by
    intro k
    rw [List.any_eq_true]
    constructor
    · intro ⟨v, hv, h⟩
      unfold ss_ck at h
      rw [Bool.and_eq_true, Bool.and_eq_true, decide_eq_true_iff, decide_eq_true_iff] at h
      exact ⟨h.1, v, hv, h.2⟩
    · intro ⟨h, v, hv, h2⟩
      refine ⟨v, hv, ?_⟩
      unfold ss_ck
      rw [Bool.and_eq_true, Bool.and_eq_true, decide_eq_true_iff, decide_eq_true_iff]
      exact ⟨h, h2⟩
  induction d with
  | zero => intro i; exact ⟨fun h => Bool.noConfusion h, fun ⟨j, h1, h2, _⟩ => by omega⟩
  | succ d ih =>
    intro i
    rw [ss_cf, Bool.or_eq_true, ih, hk]
    constructor
    · rintro (h | ⟨j, h1, h2, h3⟩)
      · exact ⟨i, by omega, by omega, h⟩
      · exact ⟨j, by omega, by omega, h3⟩
    · intro ⟨j, h1, h2, h3⟩
      by_cases e : j = i
      · subst e; exact Or.inl h3
      · exact Or.inr ⟨j, by omega, by omega, h3⟩
theorem ss_hc_iff {ci cg : Nat → Int32} : ∀ d i, ss_hc ci cg i d = true ↔ ∃ j, i ≤ j ∧ j < i + d ∧ (ci j = 0 ∨ cg j = 0) := by
  intro d
  induction d with
  | zero => intro i; exact ⟨fun h => Bool.noConfusion h, fun ⟨j, h1, h2, _⟩ => by omega⟩
  | succ d ih =>
    intro i
    rw [ss_hc, Bool.or_eq_true, ih, decide_eq_true_iff]
    constructor
    · rintro (h | ⟨j, h1, h2, h3⟩)
      · exact ⟨i, by omega, by omega, h⟩
      · exact ⟨j, by omega, by omega, h3⟩
    · intro ⟨j, h1, h2, h3⟩
      by_cases e : j = i
      · subst e; exact Or.inl h3
      · exact Or.inr ⟨j, by omega, by omega, h3⟩
theorem ss_cf_hc {st : Int32} {cr ci cg : Nat → Int32} {L : List ss_V} {i d : Nat} (h : ss_cf st cr ci L i d = true) : ss_hc ci cg i d = true := by
  obtain ⟨j, h1, h2, h3, _⟩ := (ss_cf_iff d i).mp h
  exact (ss_hc_iff d i).mpr ⟨j, h1, h2, Or.inl h3⟩
theorem ss_over {k ck rc t cnt : Nat} {o s cc cr ci : Nat → Int32} {LX LY : List ss_V} (h : ss_I k ck rc o s cc cr ci LX LY) (hk : ck < 2147483647) (ht : t < 4) (ho : ¬ o t = 0) (hc : ss_n cc t = cnt) :
    LX.any (fun v => ss_af (s t) v && ss_in cr v.1 (8 * t) cnt) = ss_cf (s t) cr ci LY (8 * t) cnt := by
  obtain ⟨h1, h2, h3, h4, ⟨a1, a2, a3⟩, ⟨b1, b2, b3⟩, c1, c2, c3, c4, c5⟩ := h
  refine ss_bool ?_
  rw [List.any_eq_true, ss_cf_iff]
  constructor
  · intro ⟨v, hv, h5⟩
    rw [Bool.and_eq_true, ss_in_iff] at h5
    obtain ⟨ha, j, hj1, hj2, hj⟩ := h5
    have hon : ss_on o cc t (j - 8 * t) := ⟨ht, ho, by omega⟩
    have ej : 8 * t + (j - 8 * t) = j := by omega
    have hown : ci j = 0 := by
      refine Classical.byContradiction (fun z => ?_)
      have := a3 v hv t (j - 8 * t) hon
      rw [ej] at this
      exact this z hj.symm
    have h5 := c5 t (j - 8 * t) hon
    rw [ej] at h5
    obtain ⟨w, hw, hw1, hw2⟩ := h5 hown
    have hne := ss_afw a1 a2 hk hw hw2 hv (by rw [hw1, hj]) ha
    refine ⟨j, hj1, hj2, hown, w, ss_tr h3 hw (ss_lv_t ht ho hw2), hw1, ss_af_iff.mpr (Or.inr ⟨hne, (ss_hd_iff.mp hw2).2⟩)⟩
  · intro ⟨j, hj1, hj2, hown, v, hv, hv1, ha⟩
    have hon : ss_on o cc t (j - 8 * t) := ⟨ht, ho, by omega⟩
    have ej : 8 * t + (j - 8 * t) = j := by omega
    have h5 := c5 t (j - 8 * t) hon
    rw [ej] at h5
    obtain ⟨w, hw, hw1, hw2⟩ := h5 hown
    have hne := ss_afw b1 b2 hk (ss_tr h3 hw (ss_lv_t ht ho hw2)) hw2 hv (by rw [hw1, hv1]) ha
    refine ⟨w, hw, ?_⟩
    rw [Bool.and_eq_true, ss_in_iff]
    exact ⟨ss_af_iff.mpr (Or.inr ⟨hne, (ss_hd_iff.mp hw2).2⟩), j, hj1, hj2, hw1.symm⟩
theorem ss_en_1 {c : Int32} {cr : Nat → Int32} {t cnt : Nat} {v : ss_V} : (ss_en c cr t cnt v).1 = v.1 := by
  unfold ss_en; split <;> rfl
theorem ss_en_2 {c : Int32} {cr : Nat → Int32} {t cnt : Nat} {v : ss_V} : (ss_en c cr t cnt v).2.1 = v.2.1 := by
  unfold ss_en; split <;> rfl
theorem ss_en_3 {c : Int32} {cr : Nat → Int32} {t cnt : Nat} {v : ss_V} : (v.2.2.1.toInt = 2147483647 ∧ ss_in cr v.1 (8 * t) cnt = true ∧ (ss_en c cr t cnt v).2.2.1.toInt = c.toInt) ∨ (¬ (v.2.2.1.toInt = 2147483647 ∧ ss_in cr v.1 (8 * t) cnt = true) ∧ (ss_en c cr t cnt v).2.2.1.toInt = v.2.2.1.toInt) := by
  unfold ss_en
  split
  · rename_i h
    rw [ss_eq, ss_ev] at h
    exact Or.inl ⟨h.1, h.2, rfl⟩
  · rename_i h
    rw [ss_eq, ss_ev] at h
    exact Or.inr ⟨h, rfl⟩
theorem ss_en_hd {ck rc t cnt : Nat} {cr : Nat → Int32} {v : ss_V} {x : Int32} (hk : ck + 1 < 2147483647) (hx : x.toInt ≤ (ck : Int)) : ss_hd (ss_en (nI (ck + 1)) cr t cnt v) x = ss_hd v x := by
  refine ss_bool ?_
  rw [ss_hd_iff, ss_hd_iff, ss_en_2]
  have e1 : (nI (ck + 1)).toInt = ((ck + 1 : Nat) : Int) := nI_toInt (by omega)
  rcases ss_en_3 (c := nI (ck + 1)) (cr := cr) (t := t) (cnt := cnt) (v := v) with ⟨g1, _, g3⟩ | ⟨_, g3⟩
  · rw [g3, e1, g1]; omega
  · rw [g3]
theorem ss_bh_lv {ck rc t cnt : Nat} {o s cc cr ci : Nat → Int32} {L : List ss_V} {v : ss_V} (hk : ck + 1 < 2147483647) (ht : t < 4) (hg : ss_gd ck rc v) (hC : ss_cv ck rc o s cc cr ci L) :
    ss_lv (nI (ck + 1)) (upd o t 0) s (ss_en (nI (ck + 1)) cr t cnt v) = ss_bh o s cr t cnt v := by
  have e1 : (nI (ck + 1)).toInt = ((ck + 1 : Nat) : Int) := nI_toInt (by omega)
  obtain ⟨g1, g2, g3, g4⟩ := hg
  refine ss_bool ?_
  rw [ss_lv_iff]
  unfold ss_bh
  rw [Bool.or_eq_true, Bool.and_eq_true, decide_eq_true_iff, ss_sn_iff, ss_hd_iff, ss_en_2, ss_eq, ss_ev]
  have hA : (v.2.1.toInt ≤ (nI (ck + 1)).toInt ∧ (nI (ck + 1)).toInt < (ss_en (nI (ck + 1)) cr t cnt v).2.2.1.toInt) ↔ (v.2.2.1.toInt = 2147483647 ∧ (!ss_in cr v.1 (8 * t) cnt) = true) := by
    rw [e1]
    rcases ss_en_3 (c := nI (ck + 1)) (cr := cr) (t := t) (cnt := cnt) (v := v) with ⟨q1, q2, q3⟩ | ⟨q2, q3⟩
    · rw [q3, e1, q2]
      constructor
      · intro h; omega
      · intro h; exact nomatch h.2
    · rw [q3]
      cases hb : ss_in cr v.1 (8 * t) cnt with
      | true =>
        rw [hb] at q2
        constructor
        · intro h
          rcases g4 with g4 | g4
          · exact absurd ⟨g4, rfl⟩ q2
          · omega
        · intro h; exact nomatch h.2
      | false =>
        constructor
        · intro h
          rcases g4 with g4 | g4
          · exact ⟨g4, rfl⟩
          · omega
        · intro h; have := h.1; omega
  have hB : (∃ u, u < 4 ∧ ¬ (upd o t 0) u = 0 ∧ ss_hd (ss_en (nI (ck + 1)) cr t cnt v) (s u) = true) ↔ (∃ u, 0 ≤ u ∧ u < 0 + 4 ∧ ¬ o u = 0 ∧ ¬ nI u = nI t ∧ ss_hd v (s u) = true) := by
    constructor
    · intro ⟨u, hu, h5, h6⟩
      have e : u ≠ t := fun e => by subst e; rw [ss_us] at h5; exact h5 rfl
      rw [ss_un e] at h5
      rw [ss_en_hd (rc := rc) hk (hC.1 u hu h5).2.2] at h6
      exact ⟨u, by omega, by omega, h5, fun z => e ((nI_eq (by omega) (by omega)).mp z), h6⟩
    · intro ⟨u, _, hu, h5, h7, h6⟩
      have e : u ≠ t := fun e => h7 (by rw [e])
      refine ⟨u, by omega, by rw [ss_un e]; exact h5, ?_⟩
      rw [ss_en_hd (rc := rc) hk (hC.1 u (by omega) h5).2.2]
      exact h6
  rw [hA, hB]
theorem ss_bh_tc {ck rc t cnt : Nat} {o s cr : Nat → Int32} {v : ss_V} (hk : ck + 1 < 2147483647) (hg : ss_gd ck rc v) (h : ss_bh o s cr t cnt v = true) : ss_lv (nI ck) (upd o t 0) s v = true := by
  obtain ⟨g1, g2, g3, g4⟩ := hg
  unfold ss_bh at h
  rw [Bool.or_eq_true, Bool.and_eq_true, decide_eq_true_iff, ss_sn_iff, ss_eq, ss_ev] at h
  rw [ss_lv_iff, ss_hd_iff, nI_toInt (by omega)]
  rcases h with h | ⟨u, _, hu, h5, h7, h6⟩
  · left
    have := h.1
    omega
  · have e : u ≠ t := fun e => h7 (by rw [e])
    exact Or.inr ⟨u, by omega, by rw [ss_un e]; exact h5, h6⟩
theorem ss_tc_lv {ck t : Nat} {o s : Nat → Int32} {v : ss_V} (h : ss_lv (nI ck) (upd o t 0) s v = true) : ss_lv (nI ck) o s v = true := by
  rw [ss_lv_iff] at h
  rw [ss_lv_iff]
  rcases h with h | ⟨u, hu, h5, h6⟩
  · exact Or.inl h
  · by_cases e : u = t
    · subst e; rw [ss_us] at h5; exact absurd rfl h5
    · rw [ss_un e] at h5; exact Or.inr ⟨u, hu, h5, h6⟩
theorem ss_nw_mem {c : Int32} {cr cn cg : Nat → Int32} {w : ss_V} : ∀ d i, w ∈ ss_nw c cr cn cg i d → ∃ j, i ≤ j ∧ j < i + d ∧ w = ss_nv c cr cn j := by
  intro d
  induction d with
  | zero => intro i h; exact absurd h List.not_mem_nil
  | succ d ih =>
    intro i h
    rw [ss_nw] at h
    by_cases z : cg i = 0
    · rw [if_pos z] at h
      rcases List.mem_cons.mp h with h | h
      · exact ⟨i, by omega, by omega, h⟩
      · obtain ⟨j, h1, h2, h3⟩ := ih (i + 1) h
        exact ⟨j, by omega, by omega, h3⟩
    · rw [if_neg z] at h
      obtain ⟨j, h1, h2, h3⟩ := ih (i + 1) h
      exact ⟨j, by omega, by omega, h3⟩
theorem ss_nw_pw {c : Int32} {cr cn cg : Nat → Int32} : ∀ d i, (∀ a b, i ≤ a → a < i + d → i ≤ b → b < i + d → a ≠ b → ¬ cr a = cr b) → (ss_nw c cr cn cg i d).Pairwise ss_dj := by
  intro d
  induction d with
  | zero => intro i _; exact List.Pairwise.nil
  | succ d ih =>
    intro i h
    have h' := ih (i + 1) (fun a b h1 h2 h3 h4 => h a b (by omega) (by omega) (by omega) (by omega))
    rw [ss_nw]
    by_cases z : cg i = 0
    · rw [if_pos z]
      refine List.Pairwise.cons (fun w hw e => ?_) h'
      obtain ⟨j, h1, h2, rfl⟩ := ss_nw_mem d (i + 1) hw
      exact absurd e (h i j (by omega) (by omega) (by omega) (by omega) (by omega))
    · rw [if_neg z]; exact h'
theorem ss_ok_new {ck rc t cnt : Nat} {o s cc cr ci cn cg : Nat → Int32} {L E LX : List ss_V} (hk : ck + 1 < 2147483647) (ht : t < 4) (ho : ¬ o t = 0) (hc : ss_n cc t = cnt) (hL : ss_ok ck rc o cc cr ci L) (hC : ss_cv ck rc o s cc cr ci LX)
    (hw : ∀ i, ss_on o cc t i → ci (8 * t + i) = 0 → ∃ w ∈ L, w.1 = cr (8 * t + i))
    (hE : ∀ e ∈ E, ∃ v ∈ L, e = ss_en (nI (ck + 1)) cr t cnt v) (hP : E.Pairwise ss_dj) :
    ss_ok (ck + 1) rc (upd o t 0) cc cr ci (E ++ ss_nw (nI (ck + 1)) cr cn cg (8 * t) cnt) := by
  have e1 : (nI (ck + 1)).toInt = ((ck + 1 : Nat) : Int) := nI_toInt (by omega)
  obtain ⟨a1, a2, a3⟩ := hL
  obtain ⟨c1, c2, c3, c4, c5⟩ := hC
  have hon : ∀ u i, ss_on (upd o t 0) cc u i → u ≠ t ∧ ss_on o cc u i := by
    intro u i ⟨a, b, c⟩
    by_cases e : u = t
    · subst e; rw [ss_us] at b; exact absurd rfl b
    · rw [ss_un e] at b; exact ⟨e, a, b, c⟩
  refine ⟨fun x hx => ?_, ?_, fun x hx u i hu hz => ?_⟩
  · rcases List.mem_append.mp hx with hx | hx
    · obtain ⟨v, hv, rfl⟩ := hE x hx
      obtain ⟨g1, g2, g3, g4⟩ := a1 v hv
      refine ⟨by rw [ss_en_1]; exact g1, by rw [ss_en_2]; omega, ?_, ?_⟩
      · rw [ss_en_2]
        rcases ss_en_3 (c := nI (ck + 1)) (cr := cr) (t := t) (cnt := cnt) (v := v) with ⟨_, _, q⟩ | ⟨_, q⟩
        · rw [q, e1]; omega
        · rw [q]; exact g3
      · rcases ss_en_3 (c := nI (ck + 1)) (cr := cr) (t := t) (cnt := cnt) (v := v) with ⟨_, _, q⟩ | ⟨_, q⟩
        · rw [q, e1]; omega
        · rw [q]; omega
    · obtain ⟨j, h1, h2, rfl⟩ := ss_nw_mem cnt (8 * t) hx
      have h9 := c2 t (j - 8 * t) ⟨ht, ho, by omega⟩
      rw [show 8 * t + (j - 8 * t) = j from by omega] at h9
      refine ⟨h9, ?_, ?_, Or.inl ss_ev⟩
      · show (nI (ck + 1)).toInt ≤ _
        omega
      · show (nI (ck + 1)).toInt < (2147483647 : Int32).toInt
        rw [ss_ev]; omega
  · refine List.pairwise_append.mpr ⟨hP, ss_nw_pw cnt (8 * t) (fun a b h1 h2 h3 h4 hne => ?_), fun x hx y hy e => ?_⟩
    · have h9 := c3 t (a - 8 * t) (b - 8 * t) ⟨ht, ho, by omega⟩ ⟨ht, ho, by omega⟩ (by omega)
      rw [show 8 * t + (a - 8 * t) = a from by omega, show 8 * t + (b - 8 * t) = b from by omega] at h9
      exact h9
    · obtain ⟨v, hv, rfl⟩ := hE x hx
      obtain ⟨j, h1, h2, rfl⟩ := ss_nw_mem cnt (8 * t) hy
      left
      show _ ≤ (nI (ck + 1)).toInt
      rw [ss_en_1] at e
      have hin : ss_in cr v.1 (8 * t) cnt = true := (ss_in_iff cnt (8 * t)).mpr ⟨j, h1, h2, e.symm⟩
      obtain ⟨g1, g2, g3, g4⟩ := a1 v hv
      rcases ss_en_3 (c := nI (ck + 1)) (cr := cr) (t := t) (cnt := cnt) (v := v) with ⟨_, _, q⟩ | ⟨q2, q⟩
      · rw [q]; exact Int.le_refl _
      · rw [q]
        rcases g4 with g4 | g4
        · exact absurd ⟨g4, hin⟩ q2
        · omega
  · obtain ⟨hne, hu'⟩ := hon u i hu
    rcases List.mem_append.mp hx with hx | hx
    · obtain ⟨v, hv, rfl⟩ := hE x hx
      rw [ss_en_1]
      exact a3 v hv u i hu' hz
    · obtain ⟨j, h1, h2, rfl⟩ := ss_nw_mem cnt (8 * t) hx
      show ¬ cr j = cr (8 * u + i)
      have hj : ss_on o cc t (j - 8 * t) := ⟨ht, ho, by omega⟩
      have ej : 8 * t + (j - 8 * t) = j := by omega
      by_cases hown : ci j = 0
      · have h9 := hw (j - 8 * t) hj
        rw [ej] at h9
        obtain ⟨w, hw1, hw2⟩ := h9 hown
        rw [← hw2]
        exact a3 w hw1 u i hu' hz
      · have h9 := c4 t (j - 8 * t) u i hj hu'
        rw [ej] at h9
        exact h9 hown hz (fun e => hne e.symm)
theorem ss_en_pw {c : Int32} {cr : Nat → Int32} {t cnt : Nat} {L : List ss_V} (hc : c.toInt ≤ 2147483647) (h : L.Pairwise ss_dj) : (L.map (ss_en c cr t cnt)).Pairwise ss_dj := by
  rw [List.pairwise_map]
  refine h.imp (fun {v w} hd e => ?_)
  rw [ss_en_1, ss_en_1] at e
  have hle : ∀ v : ss_V, (ss_en c cr t cnt v).2.2.1.toInt ≤ v.2.2.1.toInt := by
    intro v
    rcases ss_en_3 (c := c) (cr := cr) (t := t) (cnt := cnt) (v := v) with ⟨q1, _, q⟩ | ⟨_, q⟩
    · rw [q, q1]; exact hc
    · rw [q]; exact Int.le_refl _
  have h1 := hle v
  have h2 := hle w
  rw [ss_en_2, ss_en_2]
  have := hd e
  omega
theorem ss_I_commit {k ck rc t cnt : Nat} {o s cc cr ci cn cg : Nat → Int32} {LX LY EX EY : List ss_V} (h : ss_I k ck rc o s cc cr ci LX LY) (hk : ck + 1 < 2147483647) (ht : t < 4) (ho : ¬ o t = 0) (hc : ss_n cc t = cnt)
    (h8 : cnt ≤ 8) (hcnt : LX.countP (ss_bh o s cr t cnt) + ss_ng cg (8 * t) cnt ≤ 40)
    (hEX : EX = (LX.map (ss_en (nI (ck + 1)) cr t cnt)).filter (ss_lv (nI (ck + 1)) (upd o t 0) s))
    (hEY : EY = (LY.filter (ss_lv (nI ck) (upd o t 0) s)).map (ss_en (nI (ck + 1)) cr t cnt)) :
    ss_I (k + 6) (ck + 1) rc (upd o t 0) s cc cr ci (EX ++ ss_nw (nI (ck + 1)) cr cn cg (8 * t) cnt) (EY ++ ss_nw (nI (ck + 1)) cr cn cg (8 * t) cnt) ∧
    EX.length + ss_ng cg (8 * t) cnt ≤ 40 ∧ EY.length ≤ 40 := by
  have e1 : (nI (ck + 1)).toInt = ((ck + 1 : Nat) : Int) := nI_toInt (by omega)
  obtain ⟨h1, h2, h3, h4, hX, hY, hC⟩ := h
  have hbX : ∀ v ∈ LX, ss_lv (nI (ck + 1)) (upd o t 0) s (ss_en (nI (ck + 1)) cr t cnt v) = ss_bh o s cr t cnt v := fun v hv => ss_bh_lv hk ht (hX.1 v hv) hC
  have hbY : ∀ v ∈ LY, ss_lv (nI (ck + 1)) (upd o t 0) s (ss_en (nI (ck + 1)) cr t cnt v) = ss_bh o s cr t cnt v := fun v hv => ss_bh_lv hk ht (hY.1 v hv) hC
  have hEX2 : EX = (LX.filter (ss_bh o s cr t cnt)).map (ss_en (nI (ck + 1)) cr t cnt) := by
    rw [hEX, List.filter_map]
    congr 1
    exact List.filter_congr hbX
  have hfb : LX.filter (ss_bh o s cr t cnt) = LY.filter (ss_bh o s cr t cnt) :=
    ss_flt h3 (fun v hv hb => ss_tc_lv (ss_bh_tc hk (hX.1 v hv) hb)) (fun v hv hb => ss_tc_lv (ss_bh_tc hk (hY.1 v hv) hb))
  have hEYf : EY.filter (ss_lv (nI (ck + 1)) (upd o t 0) s) = EX := by
    rw [hEX2, hfb, hEY, List.filter_map, List.filter_filter]
    congr 1
    refine List.filter_congr (fun v hv => ?_)
    show (ss_lv (nI (ck + 1)) (upd o t 0) s (ss_en (nI (ck + 1)) cr t cnt v) && ss_lv (nI ck) (upd o t 0) s v) = ss_bh o s cr t cnt v
    rw [hbY v hv]
    cases hb : ss_bh o s cr t cnt v with
    | false => rfl
    | true => rw [ss_bh_tc hk (hY.1 v hv) hb]; rfl
  have hEXf : EX.filter (ss_lv (nI (ck + 1)) (upd o t 0) s) = EX := by
    rw [hEX, List.filter_filter]
    refine List.filter_congr (fun v _ => ?_)
    rw [Bool.and_self]
  have hXl : EX.length + ss_ng cg (8 * t) cnt ≤ 40 := by
    rw [hEX2, List.length_map, ← List.countP_eq_length_filter]
    exact hcnt
  have hYl : EY.length ≤ 40 := by
    rw [hEY, List.length_map]
    rw [← List.countP_eq_length_filter]
    rw [← List.countP_eq_length_filter] at h4
    exact Nat.le_trans (List.countP_mono_left (fun v _ => ss_tc_lv)) h4
  have hEXm : ∀ e ∈ EX, ∃ v ∈ LX, e = ss_en (nI (ck + 1)) cr t cnt v := by
    intro e he
    rw [hEX2] at he
    obtain ⟨v, hv, rfl⟩ := List.mem_map.mp he
    exact ⟨v, (List.mem_filter.mp hv).1, rfl⟩
  have hEYm : ∀ e ∈ EY, ∃ v ∈ LY, e = ss_en (nI (ck + 1)) cr t cnt v := by
    intro e he
    rw [hEY] at he
    obtain ⟨v, hv, rfl⟩ := List.mem_map.mp he
    exact ⟨v, (List.mem_filter.mp hv).1, rfl⟩
  have hlast : ((EX ++ ss_nw (nI (ck + 1)) cr cn cg (8 * t) cnt).filter (ss_lv (nI (ck + 1)) (upd o t 0) s)) = ((EY ++ ss_nw (nI (ck + 1)) cr cn cg (8 * t) cnt).filter (ss_lv (nI (ck + 1)) (upd o t 0) s)) := by
    rw [List.filter_append, List.filter_append, hEXf, hEYf]
  refine ⟨⟨by omega, by omega, hlast, ?_, ?_, ?_, ?_⟩, hXl, hYl⟩
  · rw [← hlast]
    refine Nat.le_trans (List.length_filter_le _ _) ?_
    rw [List.length_append, ss_nw_len]
    exact hXl
  · refine ss_ok_new hk ht ho hc hX hC (fun i hi hz => ?_) hEXm ?_
    · obtain ⟨w, hw, hw1, _⟩ := hC.2.2.2.2 t i hi hz
      exact ⟨w, hw, hw1⟩
    · rw [hEX2]
      exact ss_en_pw (by omega) (hX.2.1.sublist List.filter_sublist)
  · refine ss_ok_new hk ht ho hc hY hC (fun i hi hz => ?_) hEYm ?_
    · obtain ⟨w, hw, hw1, hw2⟩ := hC.2.2.2.2 t i hi hz
      exact ⟨w, ss_tr h3 hw (ss_lv_t ht ho hw2), hw1⟩
    · rw [hEY]
      exact ss_en_pw (by omega) (hY.2.1.sublist List.filter_sublist)
  · obtain ⟨c1, c2, c3, c4, c5⟩ := hC
    have hon : ∀ u i, ss_on (upd o t 0) cc u i → u ≠ t ∧ ss_on o cc u i := by
      intro u i ⟨a, b, c⟩
      by_cases e : u = t
      · subst e; rw [ss_us] at b; exact absurd rfl b
      · rw [ss_un e] at b; exact ⟨e, a, b, c⟩
    refine ⟨?_, fun u i hu => c2 u i (hon u i hu).2, fun u i j hu hj => c3 u i j (hon u i hu).2 (hon u j hj).2, fun u i u' j hu hj => c4 u i u' j (hon u i hu).2 (hon u' j hj).2, ?_⟩
    · intro u hu h5
      by_cases e : u = t
      · subst e; rw [ss_us] at h5; exact absurd rfl h5
      · rw [ss_un e] at h5
        obtain ⟨q1, q2, q3⟩ := c1 u hu h5
        exact ⟨q1, q2, by omega⟩
    · intro u i hu hz
      obtain ⟨hne, hu'⟩ := hon u i hu
      obtain ⟨w, hw, hw1, hw2⟩ := c5 u i hu' hz
      have hhd : ss_hd (ss_en (nI (ck + 1)) cr t cnt w) (s u) = true := by
        rw [ss_en_hd (rc := rc) hk (c1 u hu'.1 hu'.2.1).2.2]; exact hw2
      refine ⟨ss_en (nI (ck + 1)) cr t cnt w, List.mem_append.mpr (Or.inl ?_), by rw [ss_en_1]; exact hw1, hhd⟩
      rw [hEX]
      exact List.mem_filter.mpr ⟨List.mem_map.mpr ⟨w, hw, rfl⟩, ss_lv_t hu.1 hu.2.1 hhd⟩
theorem i_vc_commit {k : Nat} {u : SX} {v : SY} (I : i_Rel k u v) (hk : k + 6 ≤ 3072) (v1 : Int32) : wpX_commit (fun r u' => wpY_commit (fun r' v' => r' = r ∧ i_Rel (k + 6) u' v') v v1) u v1 := by
  obtain ⟨ck, rc, nx, ny, xf, yf, R, F, T, N, VR, VF, VT, VN, o, s, cc, cr, ci, cg, cn, ws, wk, wl, wm, fr, fi, yk, yl, ym, sr, si, ke, rfl, rfl, h1, h2, h3, h4⟩ := I
  unfold wpX_commit wpY_commit; dsimp only
  by_cases ho : ss_op o v1
  · refine xs_isOpen_t ho (br_f ss_10 ?_)
    have ho' := ho
    obtain ⟨t, ht, rfl, hot⟩ := ho'
    obtain ⟨hcc, h8, _⟩ := h3.2.2.2.2.2.2.1 t ht hot
    have hs : ∃ cnt, ss_n cc t = cnt := ⟨_, rfl⟩
    obtain ⟨cnt, hs⟩ := hs
    rw [hs] at hcc h8
    have hckk : ck ≤ k := h3.1
    have hvt : vp_in (nI t) 4 := vp_in_nI ht (by decide)
    have hct : (nI t).toNatClampNeg = t := nI_clamp (by omega)
    have hov := ss_over h3 (by omega) ht hot hs
    have hmd := ss_md_hc ci cg cnt (8 * t)
    have hml := ss_md_le ci cg cnt (8 * t)
    refine xs_isOvertaken ht hcc h8 h1 rfl ?_
    rw [hov]
    cases hb : ss_cf (s t) cr ci (ss_L (ss_at VR VF VT VN) 0 ny) (8 * t) cnt with
    | true =>
      have hpos : 0 < ss_md ci cg (8 * t) cnt := hmd.mpr (ss_cf_hc hb)
      refine br_f ss_10 ⟨hvt, nm_r (e' := upd o t 0) (by rw [hct]; rfl) (ys_isOpen_t ho (br_f ss_10 (nm_r (ss_8j t) ⟨cnt + 1, ys_made_loop ht hcc h8 (by omega) rfl (M := ss_md ci cg (8 * t) cnt) (by omega) (fun z => ?_) (fun _ _ => ?_) (fun _ z => ?_) cnt 0 0 (by omega) (by rw [Nat.zero_add]; rfl)⟩)))⟩
      · omega
      · exact ⟨rfl, ss_mk h1 h2 (ss_I_up (ss_I_close h3)) h4⟩
      · rw [hb] at z; exact nomatch z
    | false =>
      refine br_t rfl (xs_hasChanges ht hcc h8 ?_)
      cases hh : ss_hc ci cg (8 * t) cnt with
      | false =>
        have hz : ss_md ci cg (8 * t) cnt = 0 := Nat.eq_zero_of_not_pos (fun q => by rw [hmd, hh] at q; exact nomatch q)
        refine br_t rfl ⟨hvt, nm_r (e' := upd o t 0) (by rw [hct]; rfl) (ys_isOpen_t ho (br_f ss_10 (nm_r (ss_8j t) ⟨cnt + 1, ys_made_loop ht hcc h8 (by omega) rfl (M := ss_md ci cg (8 * t) cnt) (by omega) (fun z => ?_) (fun z _ => ?_) (fun z _ => ?_) cnt 0 0 (by omega) (by rw [Nat.zero_add]; rfl)⟩)))⟩
        · rw [z]
          refine br_t (nI_le (b := 0) (by omega) (by decide)) ⟨hvt, nm_r (e' := upd o t 0) (by rw [hct]; rfl) (br_t rfl ⟨rfl, ?_⟩)⟩
          exact ss_mk h1 h2 (ss_I_up (ss_I_close h3)) h4
        · omega
        · omega
      | true =>
        have hpos : 0 < ss_md ci cg (8 * t) cnt := hmd.mpr hh
        have hbX : ∀ v ∈ ss_L (ss_at R F T N) 0 nx, ss_bh o s cr t cnt v = true → ss_lv (nI ck) o s v = true := fun v hv hb => ss_tc_lv (ss_bh_tc (by omega) (h3.2.2.2.2.1.1 v hv) hb)
        have hbY : ∀ v ∈ ss_L (ss_at VR VF VT VN) 0 ny, ss_bh o s cr t cnt v = true → ss_lv (nI ck) o s v = true := fun v hv hb => ss_tc_lv (ss_bh_tc (by omega) (h3.2.2.2.2.2.1.1 v hv) hb)
        have hce : (ss_L (ss_at R F T N) 0 nx).countP (ss_bh o s cr t cnt) = (ss_L (ss_at VR VF VT VN) 0 ny).countP (ss_bh o s cr t cnt) := ss_cnt (ss_flt h3.2.2.1 hbX hbY)
        have hle : (ss_L (ss_at R F T N) 0 nx).countP (ss_bh o s cr t cnt) ≤ 40 := by
          have := List.countP_le_length (p := ss_bh o s cr t cnt) (l := ss_L (ss_at R F T N) 0 nx)
          rw [ss_Llen] at this; omega
        have hng := ss_ng_le cg cnt (8 * t)
        refine br_f ss_10 (xs_countLiveBehind ht hcc h8 h1 rfl ?_)
        by_cases hfull : (ss_L (ss_at R F T N) 0 nx).countP (ss_bh o s cr t cnt) + ss_ng cg (8 * t) cnt ≤ 40
        · refine br_t (nI_le (b := 40) hfull (by decide)) ⟨hvt, nm_r (e' := upd o t 0) (by rw [hct]; rfl) (nm_r (nI_1 ck) (xs_endChanged ht hcc h8 h1 rfl (fun T' heT => ?_)))⟩
          dsimp only
          refine xs_dropDead h1 (fun m R1 F1 T1 N1 hm he => ?_)
          dsimp only
          rw [heT] at he
          obtain ⟨hI, hl1, hl2⟩ := ss_I_commit (cn := cn) (cg := cg) h3 (by omega) ht hot hs h8 hfull rfl rfl
          rw [← he] at hI hl1
          rw [ss_Llen] at hl1
          refine xs_addNew ht hcc h8 hl1 (fun m' R2 F2 T2 N2 he2 => ?_)
          dsimp only
          refine ys_isOpen_t ho (br_f ss_10 (nm_r (ss_8j t) ⟨cnt + 1, ys_made_loop ht hcc h8 (by omega) rfl (M := ss_md ci cg (8 * t) cnt) (by omega) (fun z => ?_) (fun _ z => ?_) (fun _ _ => ?_) cnt 0 0 (by omega) (by rw [Nat.zero_add]; rfl)⟩))
          · omega
          · rw [hb] at z; exact nomatch z
          · refine br_f (nI_nle hpos (by omega)) (ys_aliveBehind ht hcc h8 (by omega) rfl ?_)
            refine br_t (nI_le (b := 40) (by rw [← hce]; omega) (by decide)) ?_
            refine ys_finish ht hcc h8 h2 ?_ (nI_ne0 hpos (by omega)) (fun m3 R3 F3 T3 N3 he3 => ⟨rfl, ?_⟩)
            · rw [List.length_map] at hl2; exact hl2
            · have hm' : m' ≤ 40 := by
                have := congrArg List.length he2
                rw [ss_Llen, List.length_append, ss_Llen, ss_nw_len] at this
                omega
              have hm3 : m3 ≤ 48 := by
                have := congrArg List.length he3
                rw [ss_Llen, List.length_append, ss_nw_len] at this
                omega
              rw [← he2, ← he3] at hI
              exact ss_mk hm' hm3 hI h4
        · refine br_f (nI_ge (a := 40) (by omega) (by omega)) (ys_isOpen_t ho (br_f ss_10 (nm_r (ss_8j t) ⟨cnt + 1, ys_made_loop ht hcc h8 (by omega) rfl (M := ss_md ci cg (8 * t) cnt) (by omega) (fun z => ?_) (fun _ z => ?_) (fun _ _ => ?_) cnt 0 0 (by omega) (by rw [Nat.zero_add]; rfl)⟩)))
          · omega
          · rw [hb] at z; exact nomatch z
          · refine br_f (nI_nle hpos (by omega)) (ys_aliveBehind ht hcc h8 (by omega) rfl ?_)
            refine br_f (nI_ge (a := 40) (by rw [← hce]; omega) (by rw [← hce]; omega)) ⟨rfl, ss_mk h1 h2 (ss_I_up h3) h4⟩
  · exact xs_isOpen_f ho (br_t rfl (ys_isOpen_f ho (br_t rfl ⟨rfl, ss_mk h1 h2 (ss_I_up h3) h4⟩)))
