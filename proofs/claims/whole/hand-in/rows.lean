section
theorem ss_us {f : Nat → Int32} {k : Nat} {x : Int32} : upd f k x k = x := if_pos rfl
theorem ss_un {f : Nat → Int32} {k j : Nat} {x : Int32} (h : j ≠ k) : upd f k x j = f j := if_neg h
theorem ss_uu {f : Nat → Int32} {k : Nat} {x y : Int32} : upd (upd f k x) k y = upd f k y := by
  funext j
  by_cases h : j = k
  · subst h; rw [ss_us, ss_us]
  · rw [ss_un h, ss_un h, ss_un h]
theorem ss_mul (a b : Nat) : nI a * nI b = nI (a * b) := (Int32.ofNat_mul a b).symm
theorem ss_i3 (i c : Nat) : nI i * 3 + nI c = nI (3 * i + c) := by
  have h : nI i * nI 3 + nI c = nI (3 * i + c) := by rw [ss_mul, nI_add, Nat.mul_comm i 3]
  exact h
theorem ss_3i (i c : Nat) : 3 * nI i + nI c = nI (3 * i + c) := by
  have h : nI 3 * nI i + nI c = nI (3 * i + c) := by rw [ss_mul, nI_add]
  exact h
theorem ss_j3 (i : Nat) : nI i * 3 = nI (3 * i) := by
  have h : nI i * nI 3 = nI (3 * i) := by rw [ss_mul, Nat.mul_comm i 3]
  exact h
theorem ss_3j (i : Nat) : 3 * nI i = nI (3 * i) := by
  have h : nI 3 * nI i = nI (3 * i) := by rw [ss_mul]
  exact h
theorem ss_2 (a : Nat) : nI a + 2 = nI (a + 2) := nI_add a 2
theorem ss_i8 (i c : Nat) : nI i * 8 + nI c = nI (8 * i + c) := by
  have h : nI i * nI 8 + nI c = nI (8 * i + c) := by rw [ss_mul, nI_add, Nat.mul_comm i 8]
  exact h
theorem ss_8i (i c : Nat) : 8 * nI i + nI c = nI (8 * i + c) := by
  have h : nI 8 * nI i + nI c = nI (8 * i + c) := by rw [ss_mul, nI_add]
  exact h
theorem ss_8j (i : Nat) : 8 * nI i = nI (8 * i) := by
  have h : nI 8 * nI i = nI (8 * i) := by rw [ss_mul]
  exact h
theorem ss_nm (n : Nat) (h : n < 2 ^ 31) : nI n ≠ -1 := by
  intro e
  have e2 : (nI n).toInt = (-1 : Int32).toInt := by rw [e]
  rw [nI_toInt h] at e2
  have e3 : (-1 : Int32).toInt = -1 := by decide
  omega
theorem ss_m0 : (-1 : Int32) < 0 := by decide
theorem ss_le (x y : Int32) : x ≤ y ↔ x.toInt ≤ y.toInt := Int32.le_iff_toInt_le
theorem ss_lt (x y : Int32) : x < y ↔ x.toInt < y.toInt := Int32.lt_iff_toInt_lt
theorem ss_eq (x y : Int32) : x = y ↔ x.toInt = y.toInt := Int32.toInt_inj.symm
theorem ss_ev : (2147483647 : Int32).toInt = 2147483647 := by decide
def ss_b (b : Bool) : Int32 := if b then 1 else 0
theorem ss_bt {b : Bool} (h : b = true) : ss_b b = 1 := by rw [h]; rfl
theorem ss_bf {b : Bool} (h : b = false) : ss_b b = 0 := by rw [h]; rfl
theorem ss_10 : ¬ (1 : Int32) = 0 := by decide
def ss_L {α : Type} (V : Nat → α) : Nat → Nat → List α
  | _, 0 => []
  | i, d + 1 => V i :: ss_L V (i + 1) d
theorem ss_Llen {α : Type} (V : Nat → α) : ∀ d i, (ss_L V i d).length = d := by
  intro d
  induction d with
  | zero => intro i; rfl
  | succ d ih => intro i; rw [ss_L, List.length_cons, ih]
theorem ss_Lmem {α : Type} (V : Nat → α) (v : α) : ∀ d i, v ∈ ss_L V i d ↔ ∃ j, i ≤ j ∧ j < i + d ∧ v = V j := by
  intro d
  induction d with
  | zero => intro i; constructor
            · intro h; exact absurd h (List.not_mem_nil)
            · intro ⟨j, h1, h2, _⟩; omega
  | succ d ih =>
    intro i
    rw [ss_L, List.mem_cons, ih]
    constructor
    · rintro (h | ⟨j, h1, h2, h3⟩)
      · exact ⟨i, by omega, by omega, h⟩
      · exact ⟨j, by omega, by omega, h3⟩
    · intro ⟨j, h1, h2, h3⟩
      by_cases e : j = i
      · subst e; exact Or.inl h3
      · exact Or.inr ⟨j, by omega, by omega, h3⟩
theorem ss_Lcon {α : Type} {V W : Nat → α} : ∀ d i, (∀ j, i ≤ j → j < i + d → V j = W j) → ss_L V i d = ss_L W i d := by
  intro d
  induction d with
  | zero => intro i _; rfl
  | succ d ih =>
    intro i h
    rw [ss_L, ss_L, h i (by omega) (by omega), ih (i + 1) (fun j h1 h2 => h j (by omega) (by omega))]
theorem ss_Lsnoc {α : Type} (V : Nat → α) : ∀ d i, ss_L V i (d + 1) = ss_L V i d ++ [V (i + d)] := by
  intro d
  induction d with
  | zero => intro i; rfl
  | succ d ih =>
    intro i
    rw [ss_L, ih (i + 1), ss_L, List.cons_append]
    have e : i + 1 + d = i + (d + 1) := by omega
    rw [e]
theorem ss_Linj {α : Type} {V W : Nat → α} : ∀ d i, ss_L V i d = ss_L W i d → ∀ j, i ≤ j → j < i + d → V j = W j := by
  intro d
  induction d with
  | zero => intro i _ j h1 h2; omega
  | succ d ih =>
    intro i h j h1 h2
    rw [ss_L, ss_L] at h
    have h' := List.cons.inj h
    by_cases e : j = i
    · subst e; exact h'.1
    · exact ih (i + 1) h'.2 j (by omega) (by omega)
theorem ss_Lmap {α β : Type} (V : Nat → α) (f : α → β) : ∀ d i, (ss_L V i d).map f = ss_L (fun j => f (V j)) i d := by
  intro d
  induction d with
  | zero => intro i; rfl
  | succ d ih => intro i; rw [ss_L, ss_L, List.map_cons, ih]
abbrev ss_V : Type := Int32 × Int32 × Int32 × Int32 × Int32 × Int32
abbrev ss_F : Type := Int32 × Int32 × Int32 × Int32
def ss_at (R F T N : Nat → Int32) (i : Nat) : ss_V := (R i, F i, T i, N (3 * i), N (3 * i + 1), N (3 * i + 2))
def ss_hd (v : ss_V) (t : Int32) : Bool := decide (v.2.1.toInt ≤ t.toInt ∧ t.toInt < v.2.2.1.toInt)
theorem ss_hd_iff {v : ss_V} {t : Int32} : ss_hd v t = true ↔ v.2.1.toInt ≤ t.toInt ∧ t.toInt < v.2.2.1.toInt := by
  unfold ss_hd; exact decide_eq_true_iff
def ss_sn (o s : Nat → Int32) (but : Int32) (v : ss_V) : Nat → Nat → Bool
  | _, 0 => false
  | i, d + 1 => (decide (¬ o i = 0 ∧ ¬ nI i = but) && ss_hd v (s i)) || ss_sn o s but v (i + 1) d
theorem ss_sn_iff {o s : Nat → Int32} {but : Int32} {v : ss_V} : ∀ d i, ss_sn o s but v i d = true ↔ ∃ t, i ≤ t ∧ t < i + d ∧ ¬ o t = 0 ∧ ¬ nI t = but ∧ ss_hd v (s t) = true := by
  intro d
  induction d with
  | zero => intro i; constructor
            · intro h; exact absurd h (by unfold ss_sn; decide)
            · intro ⟨t, h1, h2, _⟩; omega
  | succ d ih =>
    intro i
    rw [ss_sn, Bool.or_eq_true, Bool.and_eq_true, decide_eq_true_iff, ih]
    constructor
    · rintro (⟨⟨h1, h2⟩, h3⟩ | ⟨t, h1, h2, h3⟩)
      · exact ⟨i, by omega, by omega, h1, h2, h3⟩
      · exact ⟨t, by omega, by omega, h3⟩
    · intro ⟨t, h1, h2, h3, h4, h5⟩
      by_cases e : t = i
      · subst e; exact Or.inl ⟨⟨h3, h4⟩, h5⟩
      · exact Or.inr ⟨t, by omega, by omega, h3, h4, h5⟩
def ss_lv (c : Int32) (o s : Nat → Int32) (v : ss_V) : Bool := ss_hd v c || ss_sn o s (-1) v 0 4
theorem ss_lv_iff {c : Int32} {o s : Nat → Int32} {v : ss_V} : ss_lv c o s v = true ↔ ss_hd v c = true ∨ ∃ t, t < 4 ∧ ¬ o t = 0 ∧ ss_hd v (s t) = true := by
  unfold ss_lv
  rw [Bool.or_eq_true, ss_sn_iff]
  constructor
  · rintro (h | ⟨t, h1, h2, h3, h4, h5⟩)
    · exact Or.inl h
    · exact Or.inr ⟨t, by omega, h3, h5⟩
  · rintro (h | ⟨t, h1, h2, h3⟩)
    · exact Or.inl h
    · exact Or.inr ⟨t, by omega, by omega, h2, ss_nm t (by omega), h3⟩
def ss_fc (cr : Nat → Int32) (row : Int32) : Nat → Nat → Int32
  | _, 0 => -1
  | i, d + 1 => if cr i = row then nI i else ss_fc cr row (i + 1) d
def ss_in (cr : Nat → Int32) (row : Int32) : Nat → Nat → Bool
  | _, 0 => false
  | i, d + 1 => decide (cr i = row) || ss_in cr row (i + 1) d
theorem ss_in_iff {cr : Nat → Int32} {row : Int32} : ∀ d i, ss_in cr row i d = true ↔ ∃ j, i ≤ j ∧ j < i + d ∧ cr j = row := by
  intro d
  induction d with
  | zero => intro i; constructor
            · intro h; exact absurd h (by unfold ss_in; decide)
            · intro ⟨t, h1, h2, _⟩; omega
  | succ d ih =>
    intro i
    rw [ss_in, Bool.or_eq_true, decide_eq_true_iff, ih]
    constructor
    · rintro (h | ⟨t, h1, h2, h3⟩)
      · exact ⟨i, by omega, by omega, h⟩
      · exact ⟨t, by omega, by omega, h3⟩
    · intro ⟨t, h1, h2, h3⟩
      by_cases e : t = i
      · subst e; exact Or.inl h3
      · exact Or.inr ⟨t, by omega, by omega, h3⟩
theorem ss_fc_spec {cr : Nat → Int32} {row : Int32} : ∀ d i, (ss_in cr row i d = false ∧ ss_fc cr row i d = -1) ∨ (ss_in cr row i d = true ∧ ∃ j, i ≤ j ∧ j < i + d ∧ cr j = row ∧ ss_fc cr row i d = nI j) := by
  intro d
  induction d with
  | zero => intro i; exact Or.inl ⟨rfl, rfl⟩
  | succ d ih =>
    intro i
    unfold ss_in ss_fc
    by_cases z : cr i = row
    · rw [if_pos z]; exact Or.inr ⟨by rw [decide_eq_true z]; rfl, i, by omega, by omega, z, rfl⟩
    · rw [if_neg z, decide_eq_false z, Bool.false_or]
      rcases ih (i + 1) with h | ⟨h, j, h1, h2, h3⟩
      · exact Or.inl h
      · exact Or.inr ⟨h, j, by omega, by omega, h3⟩
theorem ss_fc_neg {cr : Nat → Int32} {row : Int32} {i d : Nat} (hb : i + d ≤ 32) : ss_fc cr row i d < 0 ↔ ss_in cr row i d = false := by
  rcases ss_fc_spec (cr := cr) (row := row) d i with ⟨h1, h2⟩ | ⟨h1, j, _, h3, _, h4⟩
  · rw [h1, h2]; exact ⟨fun _ => rfl, fun _ => ss_m0⟩
  · rw [h1, h4]; exact ⟨fun h => absurd h (nI_pos (by omega)), fun h => nomatch h⟩
theorem ss_fc_pos {cr : Nat → Int32} {row : Int32} {i d : Nat} (hb : i + d ≤ 32) : 0 ≤ ss_fc cr row i d ↔ ss_in cr row i d = true := by
  rcases ss_fc_spec (cr := cr) (row := row) d i with ⟨h1, h2⟩ | ⟨h1, j, _, h3, _, h4⟩
  · rw [h1, h2]; exact ⟨fun h => absurd h (by decide), fun h => nomatch h⟩
  · rw [h1, h4]; exact ⟨fun _ => rfl, fun _ => nI_pos' (by omega)⟩
def ss_op (o : Nat → Int32) (p : Int32) : Prop := ∃ j, j < 4 ∧ p = nI j ∧ ¬ o j = 0
def ss_am (p : Int32) (n : Nat) : Prop := ∃ j, j < n ∧ p = nI j
def ss_who (c : Int32) (s cc : Nat → Int32) (p : Int32) (t cnt : Nat) (tm : Int32) : Prop :=
  (p = -1 ∧ t = 0 ∧ cnt = 0 ∧ tm = c) ∨ (p = nI t ∧ t < 4 ∧ cc t = nI cnt ∧ cnt ≤ 8 ∧ tm = s t)
def ss_pr (v : ss_V) : ss_F := (v.1, v.2.2.2)
def ss_fa (fr fi : Nat → Int32) (i : Nat) : ss_F := (fr i, fi (3 * i), fi (3 * i + 1), fi (3 * i + 2))
def ss_gt (q : ss_F) (c : Nat) : Int32 := match c with
  | 0 => q.2.1
  | 1 => q.2.2.1
  | _ => q.2.2.2
theorem ss_gt_fa {fr fi : Nat → Int32} {i c : Nat} (h : c < 3) : ss_gt (ss_fa fr fi i) c = fi (3 * i + c) := by
  match c, h with
  | 0, _ => rfl
  | 1, _ => rfl
  | 2, _ => rfl
/-- the changed rows that are not gone -/
def ss_cl (cr cn cg : Nat → Int32) : Nat → Nat → List ss_F
  | _, 0 => []
  | i, d + 1 => if cg i = 0 then ss_fa cr cn i :: ss_cl cr cn cg (i + 1) d else ss_cl cr cn cg (i + 1) d
end
section
section
variable {xc xr xn xf : Int32} {R F T N o s cc cr ci cg cn ws wk wl wm fr fi : Nat → Int32}
variable {post : Int32 → Prop}
theorem xs_isOpen_t {p : Int32} (h : ss_op o p) (hp : post 1) : wpX_isOpen post (xc, xr, xn, xf, R, F, T, N, o, s, cc, cr, ci, cg, cn, ws, wk, wl, wm, fr, fi) p := by
  obtain ⟨j, hj, rfl, ho⟩ := h
  refine br_f (nI_pos (by omega)) (br_f (nI_ge (b := 4) hj (by decide)) ⟨vp_in_nI hj (by decide), br_f ?_ hp⟩)
  rw [nI_clamp (by omega)]; exact ho
theorem xs_isOpen_f {p : Int32} (h : ¬ ss_op o p) (hp : post 0) : wpX_isOpen post (xc, xr, xn, xf, R, F, T, N, o, s, cc, cr, ci, cg, cn, ws, wk, wl, wm, fr, fi) p := by
  refine br_c (fun _ => hp) (fun h0 => br_c (fun _ => hp) (fun h4 => ?_))
  obtain ⟨j, hj, rfl⟩ := nI_of h0
  have hj4 : j < 4 := Nat.lt_of_not_le (fun hh => h4 (nI_le (a := 4) hh hj))
  refine ⟨vp_in_nI hj4 (by decide), br_c (fun _ => hp) (fun h2 => ?_)⟩
  rw [nI_clamp hj] at h2
  exact absurd ⟨j, hj4, rfl, h2⟩ h
theorem xs_isColumn_t {p : Int32} (h : ss_am p 3) (hp : post 1) : wpX_isColumn post (xc, xr, xn, xf, R, F, T, N, o, s, cc, cr, ci, cg, cn, ws, wk, wl, wm, fr, fi) p := by
  obtain ⟨j, hj, rfl⟩ := h
  exact br_f (nI_pos (by omega)) (br_f (nI_ge (b := 3) hj (by decide)) hp)
theorem xs_isColumn_f {p : Int32} (h : ¬ ss_am p 3) (hp : post 0) : wpX_isColumn post (xc, xr, xn, xf, R, F, T, N, o, s, cc, cr, ci, cg, cn, ws, wk, wl, wm, fr, fi) p := by
  refine br_c (fun _ => hp) (fun h0 => br_c (fun _ => hp) (fun h4 => ?_))
  obtain ⟨j, hj, rfl⟩ := nI_of h0
  have hj4 : j < 3 := Nat.lt_of_not_le (fun hh => h4 (nI_le (a := 3) hh hj))
  exact absurd ⟨j, hj4, rfl⟩ h
theorem xs_canAsk_t {p : Int32} (h : p = -1 ∨ ss_op o p) (hp : post 1) : wpX_canAsk post (xc, xr, xn, xf, R, F, T, N, o, s, cc, cr, ci, cg, cn, ws, wk, wl, wm, fr, fi) p := by
  rcases h with h | h
  · exact br_t h hp
  · exact br_c (fun _ => hp) (fun _ => xs_isOpen_t h (br_f ss_10 hp))
theorem xs_canAsk_f {p : Int32} (h : ¬ (p = -1 ∨ ss_op o p)) (hp : post 0) : wpX_canAsk post (xc, xr, xn, xf, R, F, T, N, o, s, cc, cr, ci, cg, cn, ws, wk, wl, wm, fr, fi) p :=
  br_f (fun z => h (Or.inl z)) (xs_isOpen_f (fun z => h (Or.inr z)) (br_t rfl hp))
theorem xs_fc_loop {row : Int32} {t cnt : Nat} (ht : t < 4) (hc : cc t = nI cnt) (h8 : cnt ≤ 8) : ∀ d i, i + d = cnt → post (ss_fc cr row (8 * t + i) d) → wX_findChange_9 post (nI t) row xc xr xn xf R F T N o s cc cr ci cg cn ws wk wl wm fr fi (d + 1) (nI i) := by
  intro d
  induction d with
  | zero =>
    intro i hi hp
    refine ⟨vp_in_nI ht (by decide), br_t ?_ hp⟩
    rw [nI_clamp (by omega), hc]; exact nI_le (by omega) (by omega)
  | succ d ih =>
    intro i hi hp
    refine ⟨vp_in_nI ht (by decide), br_f ?_ (nm_r (ss_i8 t i) ⟨vp_in_nI (by omega) (by decide), ?_⟩)⟩
    · rw [nI_clamp (by omega), hc]; exact nI_ge (by omega) (by omega)
    · rw [nI_clamp (n := 8 * t + i) (by omega)]
      rw [ss_fc] at hp
      by_cases z : cr (8 * t + i) = row
      · rw [if_pos z] at hp; exact br_t z hp
      · rw [if_neg z] at hp; exact br_f z (nm_r (nI_1 i) (ih (i + 1) (by omega) hp))
theorem xs_findChange {row : Int32} {t cnt : Nat} (ht : t < 4) (hc : cc t = nI cnt) (h8 : cnt ≤ 8) (hp : post (ss_fc cr row (8 * t) cnt)) : wpX_findChange post (xc, xr, xn, xf, R, F, T, N, o, s, cc, cr, ci, cg, cn, ws, wk, wl, wm, fr, fi) (nI t) row :=
  br_f (ss_nm t (by omega)) ⟨cnt + 1, xs_fc_loop ht hc h8 cnt 0 (by omega) hp⟩
theorem xs_findChangeW {row p : Int32} {t cnt : Nat} {tm : Int32} (hw : ss_who xc s cc p t cnt tm) (hp : post (ss_fc cr row (8 * t) cnt)) : wpX_findChange post (xc, xr, xn, xf, R, F, T, N, o, s, cc, cr, ci, cg, cn, ws, wk, wl, wm, fr, fi) p row := by
  rcases hw with ⟨rfl, _, rfl, _⟩ | ⟨rfl, ht, hc, h8, _⟩
  · exact br_t rfl hp
  · exact xs_findChange ht hc h8 hp
theorem xs_timeSeen {p : Int32} {t cnt : Nat} {tm : Int32} (hw : ss_who xc s cc p t cnt tm) (hp : post tm) : wpX_timeSeen post (xc, xr, xn, xf, R, F, T, N, o, s, cc, cr, ci, cg, cn, ws, wk, wl, wm, fr, fi) p := by
  rcases hw with ⟨rfl, _, _, rfl⟩ | ⟨rfl, ht, _, _, rfl⟩
  · exact br_t rfl hp
  · refine br_f (ss_nm t (by omega)) ⟨vp_in_nI ht (by decide), ?_⟩
    rw [nI_clamp (by omega)]; exact hp
theorem xs_holds {i : Nat} {tm : Int32} (hi : i < 40) (hp : post (ss_b (ss_hd (ss_at R F T N i) tm))) : wpX_holds post (xc, xr, xn, xf, R, F, T, N, o, s, cc, cr, ci, cg, cn, ws, wk, wl, wm, fr, fi) (nI i) tm := by
  have hv : vp_in (nI i) 40 := vp_in_nI hi (by decide)
  have hc : (nI i).toNatClampNeg = i := nI_clamp (by omega)
  refine ⟨hv, br_c (fun h1 => ?_) (fun h1 => ⟨hv, br_c (fun h2 => ?_) (fun h2 => ?_)⟩)⟩
  · rw [hc, ss_lt] at h1
    rw [ss_bf] at hp
    · exact hp
    · exact decide_eq_false (fun z => by have := z.1; simp only [ss_at] at this; omega)
  · rw [hc, ss_le] at h2
    rw [ss_bf] at hp
    · exact hp
    · exact decide_eq_false (fun z => by have := z.2; simp only [ss_at] at this; omega)
  · rw [hc, ss_lt] at h1
    rw [hc, ss_le] at h2
    rw [ss_bt] at hp
    · exact hp
    · exact decide_eq_true ⟨by simp only [ss_at]; omega, by simp only [ss_at]; omega⟩
theorem xs_sn_loop {k : Nat} {but : Int32} (hk : k < 40) : ∀ d i, i + d = 4 → post (ss_b (ss_sn o s but (ss_at R F T N k) i d)) → wX_isSeenByOpen_2 post (nI k) but xc xr xn xf R F T N o s cc cr ci cg cn ws wk wl wm fr fi (d + 1) (nI i) := by
  intro d
  induction d with
  | zero => intro i hi hp; exact br_t (nI_le (a := 4) (by omega) (by omega)) hp
  | succ d ih =>
    intro i hi hp
    have hc : (nI i).toNatClampNeg = i := nI_clamp (by omega)
    have hn := ih (i + 1) (by omega)
    rw [ss_sn] at hp
    refine br_f (nI_ge (b := 4) (by omega) (by decide)) ⟨vp_in_nI (by omega) (by decide), ?_⟩
    rw [hc]
    refine br_c (fun z => nm_r (nI_1 i) (hn ?_)) (fun z => br_c (fun z2 => nm_r (nI_1 i) (hn ?_)) (fun z2 => ⟨vp_in_nI (by omega) (by decide), ?_⟩))
    · rw [decide_eq_false (fun q => q.1 z), Bool.false_and, Bool.false_or] at hp; exact hp
    · rw [decide_eq_false (fun q => q.2 z2), Bool.false_and, Bool.false_or] at hp; exact hp
    · rw [decide_eq_true ⟨z, z2⟩, Bool.true_and] at hp
      refine xs_holds hk ?_
      cases hb : ss_hd (ss_at R F T N k) (s i) with
      | false => rw [hb, Bool.false_or] at hp; exact br_t rfl (nm_r (nI_1 i) (hn hp))
      | true => rw [hb, Bool.true_or] at hp; exact br_f ss_10 hp
theorem xs_isSeenByOpen {k : Nat} {but : Int32} (hk : k < 40) (hp : post (ss_b (ss_sn o s but (ss_at R F T N k) 0 4))) : wpX_isSeenByOpen post (xc, xr, xn, xf, R, F, T, N, o, s, cc, cr, ci, cg, cn, ws, wk, wl, wm, fr, fi) (nI k) but :=
  ⟨5, xs_sn_loop hk 4 0 rfl hp⟩
theorem xs_isLive {k : Nat} (hk : k < 40) (hp : post (ss_b (ss_lv xc o s (ss_at R F T N k)))) : wpX_isLive post (xc, xr, xn, xf, R, F, T, N, o, s, cc, cr, ci, cg, cn, ws, wk, wl, wm, fr, fi) (nI k) := by
  unfold wpX_isLive; dsimp only
  refine xs_holds hk ?_
  rw [ss_lv] at hp
  cases hb : ss_hd (ss_at R F T N k) xc with
  | true => rw [hb, Bool.true_or] at hp; exact br_f ss_10 hp
  | false =>
    rw [hb, Bool.false_or] at hp
    refine br_t rfl (xs_isSeenByOpen hk ?_)
    cases hb2 : ss_sn o s (-1) (ss_at R F T N k) 0 4 with
    | true => rw [hb2] at hp; exact br_f ss_10 hp
    | false => rw [hb2] at hp; exact br_t rfl hp
/-- a version of this row that holds at this time -/
def ss_fp (row tm : Int32) (v : ss_V) : Bool := decide (v.1 = row) && ss_hd v tm
theorem xs_fv_loop {row tm : Int32} {n : Nat} (hn : n ≤ 40) (hx : xn = nI n) : ∀ d i, i + d = n → (∀ r, (r = -1 ∧ (ss_L (ss_at R F T N) i d).find? (ss_fp row tm) = none) ∨ (∃ j, j < n ∧ r = nI j ∧ (ss_L (ss_at R F T N) i d).find? (ss_fp row tm) = some (ss_at R F T N j)) → post r) → wX_findVersion_2 post row tm xc xr xn xf R F T N o s cc cr ci cg cn ws wk wl wm fr fi (d + 1) (nI i) := by
  intro d
  induction d with
  | zero =>
    intro i hi hp
    refine br_t ?_ (hp (-1) (Or.inl ⟨rfl, rfl⟩))
    rw [hx]; exact nI_le (by omega) (by omega)
  | succ d ih =>
    intro i hi hp
    have hc : (nI i).toNatClampNeg = i := nI_clamp (by omega)
    have hn' : ss_fp row tm (ss_at R F T N i) = false → wX_findVersion_2 post row tm xc xr xn xf R F T N o s cc cr ci cg cn ws wk wl wm fr fi (d + 1) (nI (i + 1)) := by
      intro hf
      refine ih (i + 1) (by omega) (fun r hr => hp r ?_)
      rw [ss_L, List.find?_cons_of_neg (by rw [hf]; decide)]
      exact hr
    refine br_f (by rw [hx]; exact nI_ge (by omega) (by omega)) ⟨vp_in_nI (by omega) (by decide), ?_⟩
    rw [hc]
    refine br_c (fun z => xs_holds (by omega) ?_) (fun z => nm_r (nI_1 i) (hn' ?_))
    · have e1 : ss_fp row tm (ss_at R F T N i) = ss_hd (ss_at R F T N i) tm := by
        unfold ss_fp; rw [decide_eq_true (show (ss_at R F T N i).1 = row from z), Bool.true_and]
      cases hb : ss_hd (ss_at R F T N i) tm with
      | false => exact br_t rfl (nm_r (nI_1 i) (hn' (by rw [e1, hb])))
      | true =>
        refine br_f ss_10 (hp _ (Or.inr ⟨i, by omega, rfl, ?_⟩))
        rw [ss_L, List.find?_cons_of_pos (by rw [e1, hb])]
    · unfold ss_fp; rw [decide_eq_false (show ¬ (ss_at R F T N i).1 = row from z), Bool.false_and]
theorem xs_findVersion {row tm : Int32} {n : Nat} (hn : n ≤ 40) (hx : xn = nI n) (hp : ∀ r, (r = -1 ∧ (ss_L (ss_at R F T N) 0 n).find? (ss_fp row tm) = none) ∨ (∃ j, j < n ∧ r = nI j ∧ (ss_L (ss_at R F T N) 0 n).find? (ss_fp row tm) = some (ss_at R F T N j)) → post r) : wpX_findVersion post (xc, xr, xn, xf, R, F, T, N, o, s, cc, cr, ci, cg, cn, ws, wk, wl, wm, fr, fi) row tm :=
  ⟨n + 1, xs_fv_loop hn hx n 0 (by omega) hp⟩
end
end
section
section
variable {yn yc yr yf : Int32} {R F T N o s cc cr ci cg cn yk yl ym sr si ke : Nat → Int32}
variable {post : Int32 → Prop}
theorem ys_among_t {p q : Int32} {n : Nat} (hq : q = nI n) (hn : n < 2 ^ 31) (h : ss_am p n) (hp : post 1) : wpY_among post (yn, yc, yr, yf, R, F, T, N, o, s, cc, cr, ci, cg, cn, yk, yl, ym, sr, si, ke) p q := by
  obtain ⟨j, hj, rfl⟩ := h
  subst hq
  exact br_f (nI_pos (by omega)) (br_f (nI_ge hj hn) hp)
theorem ys_among_f {p q : Int32} {n : Nat} (hq : q = nI n) (hn : n < 2 ^ 31) (h : ¬ ss_am p n) (hp : post 0) : wpY_among post (yn, yc, yr, yf, R, F, T, N, o, s, cc, cr, ci, cg, cn, yk, yl, ym, sr, si, ke) p q := by
  subst hq
  refine br_c (fun _ => hp) (fun h0 => br_c (fun _ => hp) (fun h4 => ?_))
  obtain ⟨j, hj, rfl⟩ := nI_of h0
  exact absurd ⟨j, Nat.lt_of_not_le (fun hh => h4 (nI_le hh hj)), rfl⟩ h
theorem ys_isOpen_t {p : Int32} (h : ss_op o p) (hp : post 1) : wpY_isOpen post (yn, yc, yr, yf, R, F, T, N, o, s, cc, cr, ci, cg, cn, yk, yl, ym, sr, si, ke) p := by
  obtain ⟨j, hj, rfl, ho⟩ := h
  unfold wpY_isOpen; dsimp only
  refine ys_among_t (n := 4) rfl (by decide) ⟨j, hj, rfl⟩ (br_f ss_10 ⟨vp_in_nI hj (by decide), br_f ?_ hp⟩)
  rw [nI_clamp (by omega)]; exact ho
theorem ys_isOpen_f {p : Int32} (h : ¬ ss_op o p) (hp : post 0) : wpY_isOpen post (yn, yc, yr, yf, R, F, T, N, o, s, cc, cr, ci, cg, cn, yk, yl, ym, sr, si, ke) p := by
  unfold wpY_isOpen; dsimp only
  by_cases ha : ss_am p 4
  · refine ys_among_t (n := 4) rfl (by decide) ha ?_
    obtain ⟨j, hj, rfl⟩ := ha
    refine br_f ss_10 ⟨vp_in_nI hj (by decide), br_t ?_ hp⟩
    rw [nI_clamp (by omega)]
    exact Classical.byContradiction (fun z => h ⟨j, hj, rfl, z⟩)
  · exact ys_among_f (n := 4) rfl (by decide) ha (br_t rfl hp)
theorem ys_fc_loop {row : Int32} {t cnt : Nat} (ht : t < 4) (hc : cc t = nI cnt) (h8 : cnt ≤ 8) : ∀ d i, i + d = cnt → post (ss_fc cr row (8 * t + i) d) → wY_changeOf_5 post (nI t) row yn yc yr yf R F T N o s cc cr ci cg cn yk yl ym sr si ke (d + 1) (nI (8 * t + i)) := by
  intro d
  have e8 : 8 * nI t + cc (nI t).toNatClampNeg = nI (8 * t + cnt) := by rw [nI_clamp (by omega), hc, ss_8i]
  induction d with
  | zero =>
    intro i hi hp
    refine ⟨vp_in_nI ht (by decide), br_t ?_ hp⟩
    rw [e8]; exact nI_le (by omega) (by omega)
  | succ d ih =>
    intro i hi hp
    refine ⟨vp_in_nI ht (by decide), br_f ?_ ⟨vp_in_nI (by omega) (by decide), ?_⟩⟩
    · rw [e8]; exact nI_ge (by omega) (by omega)
    · rw [nI_clamp (n := 8 * t + i) (by omega)]
      rw [ss_fc] at hp
      by_cases z : cr (8 * t + i) = row
      · rw [if_pos z] at hp; exact br_t z hp
      · rw [if_neg z] at hp; exact br_f z (nm_r (nI_1 (8 * t + i)) (ih (i + 1) (by omega) hp))
theorem ys_changeOf {row : Int32} {t cnt : Nat} (ht : t < 4) (hc : cc t = nI cnt) (h8 : cnt ≤ 8) (hp : post (ss_fc cr row (8 * t) cnt)) : wpY_changeOf post (yn, yc, yr, yf, R, F, T, N, o, s, cc, cr, ci, cg, cn, yk, yl, ym, sr, si, ke) (nI t) row :=
  nm_r (ss_8j t) ⟨cnt + 1, ys_fc_loop ht hc h8 cnt 0 (by omega) hp⟩
theorem ys_holds {i : Nat} {tm : Int32} (hi : i < 56) (hp : post (ss_b (ss_hd (ss_at R F T N i) tm))) : wpY_holds post (yn, yc, yr, yf, R, F, T, N, o, s, cc, cr, ci, cg, cn, yk, yl, ym, sr, si, ke) (nI i) tm := by
  have hv : vp_in (nI i) 56 := vp_in_nI hi (by decide)
  have hc : (nI i).toNatClampNeg = i := nI_clamp (by omega)
  refine ⟨hv, br_c (fun h1 => ?_) (fun h1 => ⟨hv, br_c (fun h2 => ?_) (fun h2 => ?_)⟩)⟩
  · rw [hc, ss_lt] at h1
    rw [ss_bf] at hp
    · exact hp
    · exact decide_eq_false (fun z => by have := z.1; simp only [ss_at] at this; omega)
  · rw [hc, ss_le] at h2
    rw [ss_bf] at hp
    · exact hp
    · exact decide_eq_false (fun z => by have := z.2; simp only [ss_at] at this; omega)
  · rw [hc, ss_lt] at h1
    rw [hc, ss_le] at h2
    rw [ss_bt] at hp
    · exact hp
    · exact decide_eq_true ⟨by simp only [ss_at]; omega, by simp only [ss_at]; omega⟩
theorem ys_lv_loop1 {k : Nat} {but : Int32} (hp : post 1) : ∀ d i, i + d = 4 → wY_live_13 post (nI k) but yn yc yr yf R F T N o s cc cr ci cg cn yk yl ym sr si ke (d + 1) 1 (nI i) := by
  intro d
  induction d with
  | zero => intro i hi; exact br_t (nI_le (a := 4) (by omega) (by omega)) ⟨rfl, hp⟩
  | succ d ih =>
    intro i hi
    exact br_f (nI_ge (b := 4) (by omega) (by decide)) (br_f ss_10 (nm_r (nI_1 i) (ih (i + 1) (by omega))))
theorem ys_lv_loop {k : Nat} {but : Int32} (hk : k < 56) : ∀ d i, i + d = 4 → post (ss_b (ss_sn o s but (ss_at R F T N k) i d)) → wY_live_13 post (nI k) but yn yc yr yf R F T N o s cc cr ci cg cn yk yl ym sr si ke (d + 1) 0 (nI i) := by
  intro d
  induction d with
  | zero => intro i hi hp; exact br_t (nI_le (a := 4) (by omega) (by omega)) ⟨rfl, hp⟩
  | succ d ih =>
    intro i hi hp
    have hc : (nI i).toNatClampNeg = i := nI_clamp (by omega)
    have hn := ih (i + 1) (by omega)
    rw [ss_sn] at hp
    refine br_f (nI_ge (b := 4) (by omega) (by decide)) (br_t rfl ⟨vp_in_nI (by omega) (by decide), ?_⟩)
    rw [hc]
    refine br_c (fun z => nm_r (nI_1 i) (hn ?_)) (fun z => br_c (fun z2 => nm_r (nI_1 i) (hn ?_)) (fun z2 => ⟨vp_in_nI (by omega) (by decide), ?_⟩))
    · rw [decide_eq_false (fun q => q.1 z), Bool.false_and, Bool.false_or] at hp; exact hp
    · rw [decide_eq_false (fun q => q.2 z2), Bool.false_and, Bool.false_or] at hp; exact hp
    · rw [decide_eq_true ⟨z, z2⟩, Bool.true_and] at hp
      refine ys_holds hk ?_
      cases hb : ss_hd (ss_at R F T N k) (s i) with
      | false => rw [hb, Bool.false_or] at hp; exact br_t rfl (nm_r (nI_1 i) (hn hp))
      | true => rw [hb, Bool.true_or] at hp; exact br_f ss_10 (nm_r (nI_1 i) (ys_lv_loop1 hp d (i + 1) (by omega)))
theorem ys_live {k : Nat} (hk : k < 56) (hp : post (ss_b (ss_lv yc o s (ss_at R F T N k)))) : wpY_live post (yn, yc, yr, yf, R, F, T, N, o, s, cc, cr, ci, cg, cn, yk, yl, ym, sr, si, ke) (nI k) (-1) := by
  unfold wpY_live; dsimp only
  refine ys_holds hk ?_
  rw [ss_lv] at hp
  cases hb : ss_hd (ss_at R F T N k) yc with
  | true => rw [hb, Bool.true_or] at hp; exact ⟨5, ys_lv_loop1 hp 4 0 rfl⟩
  | false => rw [hb, Bool.false_or] at hp; exact ⟨5, ys_lv_loop hk 4 0 rfl hp⟩
theorem ys_fv_loop {row tm : Int32} {n : Nat} (hn : n ≤ 56) (hx : yn = nI n) : ∀ d i, i + d = n → (∀ r, (r = -1 ∧ (ss_L (ss_at R F T N) i d).find? (ss_fp row tm) = none) ∨ (∃ j, j < n ∧ r = nI j ∧ (ss_L (ss_at R F T N) i d).find? (ss_fp row tm) = some (ss_at R F T N j)) → post r) → wY_versionAt_2 post row tm yn yc yr yf R F T N o s cc cr ci cg cn yk yl ym sr si ke (d + 1) (nI i) := by
  intro d
  induction d with
  | zero =>
    intro i hi hp
    refine br_t ?_ (hp (-1) (Or.inl ⟨rfl, rfl⟩))
    rw [hx]; exact nI_le (by omega) (by omega)
  | succ d ih =>
    intro i hi hp
    have hc : (nI i).toNatClampNeg = i := nI_clamp (by omega)
    have hn' : ss_fp row tm (ss_at R F T N i) = false → wY_versionAt_2 post row tm yn yc yr yf R F T N o s cc cr ci cg cn yk yl ym sr si ke (d + 1) (nI (i + 1)) := by
      intro hf
      refine ih (i + 1) (by omega) (fun r hr => hp r ?_)
      rw [ss_L, List.find?_cons_of_neg (by rw [hf]; decide)]
      exact hr
    refine br_f (by rw [hx]; exact nI_ge (by omega) (by omega)) ⟨vp_in_nI (by omega) (by decide), ?_⟩
    rw [hc]
    refine br_c (fun z => ys_holds (by omega) ?_) (fun z => nm_r (nI_1 i) (hn' ?_))
    · have e1 : ss_fp row tm (ss_at R F T N i) = ss_hd (ss_at R F T N i) tm := by
        unfold ss_fp; rw [decide_eq_true (show (ss_at R F T N i).1 = row from z), Bool.true_and]
      cases hb : ss_hd (ss_at R F T N i) tm with
      | false => exact br_t rfl (nm_r (nI_1 i) (hn' (by rw [e1, hb])))
      | true =>
        refine br_f ss_10 (hp _ (Or.inr ⟨i, by omega, rfl, ?_⟩))
        rw [ss_L, List.find?_cons_of_pos (by rw [e1, hb])]
    · unfold ss_fp; rw [decide_eq_false (show ¬ (ss_at R F T N i).1 = row from z), Bool.false_and]
theorem ys_versionAt {row tm : Int32} {n : Nat} (hn : n ≤ 56) (hx : yn = nI n) (hp : ∀ r, (r = -1 ∧ (ss_L (ss_at R F T N) 0 n).find? (ss_fp row tm) = none) ∨ (∃ j, j < n ∧ r = nI j ∧ (ss_L (ss_at R F T N) 0 n).find? (ss_fp row tm) = some (ss_at R F T N j)) → post r) : wpY_versionAt post (yn, yc, yr, yf, R, F, T, N, o, s, cc, cr, ci, cg, cn, yk, yl, ym, sr, si, ke) row tm :=
  ⟨n + 1, ys_fv_loop hn hx n 0 (by omega) hp⟩
theorem ys_alive_loop {n : Nat} (hn : n ≤ 56) (hx : yn = nI n) : ∀ d i c, i + d = n → post (nI (c + (ss_L (ss_at R F T N) i d).countP (ss_lv yc o s))) → wY_alive_4 post yn yc yr yf R F T N o s cc cr ci cg cn yk yl ym sr si ke (d + 1) (nI c) (nI i) := by
  intro d
  induction d with
  | zero => intro i c hi hp; exact br_t (by rw [hx]; exact nI_le (by omega) (by omega)) hp
  | succ d ih =>
    intro i c hi hp
    refine br_f (by rw [hx]; exact nI_ge (by omega) (by omega)) (ys_live (by omega) ?_)
    rw [ss_L, List.countP_cons] at hp
    cases hb : ss_lv yc o s (ss_at R F T N i) with
    | false =>
      rw [hb] at hp
      exact br_t rfl (nm_r (nI_1 i) (ih (i + 1) c (by omega) hp))
    | true =>
      rw [hb, if_pos rfl, ← Nat.add_assoc, Nat.add_right_comm] at hp
      exact br_f ss_10 (nm_r (nI_1 c) (nm_r (nI_1 i) (ih (i + 1) (c + 1) (by omega) hp)))
theorem ys_alive {n : Nat} (hn : n ≤ 56) (hx : yn = nI n) (hp : post (nI ((ss_L (ss_at R F T N) 0 n).countP (ss_lv yc o s)))) : wpY_alive post (yn, yc, yr, yf, R, F, T, N, o, s, cc, cr, ci, cg, cn, yk, yl, ym, sr, si, ke) :=
  ⟨n + 1, ys_alive_loop hn hx n 0 0 (by omega) (by rw [Nat.zero_add]; exact hp)⟩
theorem ys_there_loop {n : Nat} (hn : n ≤ 56) (hx : yn = nI n) {p : Int32} : ∀ d i c, i + d = n → wY_state_107 post p (nI (c + (ss_L (ss_at R F T N) i d).countP (fun v => ss_hd v yc))) yn yc yr yf R F T N o s cc cr ci cg cn yk yl ym sr si ke → wY_state_73 post p yn yc yr yf R F T N o s cc cr ci cg cn yk yl ym sr si ke (d + 1) (nI c) (nI i) := by
  intro d
  induction d with
  | zero => intro i c hi hp; exact br_t (by rw [hx]; exact nI_le (by omega) (by omega)) hp
  | succ d ih =>
    intro i c hi hp
    refine br_f (by rw [hx]; exact nI_ge (by omega) (by omega)) (ys_holds (by omega) ?_)
    rw [ss_L, List.countP_cons] at hp
    cases hb : ss_hd (ss_at R F T N i) yc with
    | false =>
      rw [hb] at hp
      exact br_t rfl (nm_r (show nI c + 0 = nI c from nI_add c 0) (nm_r (nI_1 i) (ih (i + 1) c (by omega) hp)))
    | true =>
      rw [hb, if_pos rfl, ← Nat.add_assoc, Nat.add_right_comm] at hp
      exact br_f ss_10 (nm_r (nI_1 c) (nm_r (nI_1 i) (ih (i + 1) (c + 1) (by omega) hp)))
/-- how many of them are not zero -/
def ss_no (o : Nat → Int32) : Nat → Nat → Nat
  | _, 0 => 0
  | i, d + 1 => (if o i = 0 then 0 else 1) + ss_no o (i + 1) d
theorem ys_open_loop {p : Int32} : ∀ d i c, i + d = 4 → wY_state_66 post p (nI (c + ss_no o i d)) yn yc yr yf R F T N o s cc cr ci cg cn yk yl ym sr si ke → wY_state_38 post p yn yc yr yf R F T N o s cc cr ci cg cn yk yl ym sr si ke (d + 1) (nI c) (nI i) := by
  intro d
  induction d with
  | zero => intro i c hi hp; exact br_t (nI_le (a := 4) (by omega) (by omega)) hp
  | succ d ih =>
    intro i c hi hp
    have hc : (nI i).toNatClampNeg = i := nI_clamp (by omega)
    rw [ss_no] at hp
    refine br_f (nI_ge (b := 4) (by omega) (by decide)) ⟨vp_in_nI (by omega) (by decide), ?_⟩
    rw [hc]
    refine br_c (fun z => ?_) (fun z => ?_)
    · rw [if_pos z, Nat.zero_add] at hp
      exact nm_r (show nI c + 0 = nI c from nI_add c 0) (nm_r (nI_1 i) (ih (i + 1) c (by omega) hp))
    · rw [if_neg z, ← Nat.add_assoc] at hp
      exact nm_r (nI_1 c) (nm_r (nI_1 i) (ih (i + 1) (c + 1) (by omega) hp))
end
section
variable {xc xr xn xf : Int32} {R F T N o s cc cr ci cg cn ws wk wl wm fr fi : Nat → Int32}
variable {post : Int32 → Prop}
theorem xs_countLive_loop {n : Nat} (hn : n ≤ 40) (hx : xn = nI n) : ∀ d i c, i + d = n → post (nI (c + (ss_L (ss_at R F T N) i d).countP (ss_lv xc o s))) → wX_countLive_4 post xc xr xn xf R F T N o s cc cr ci cg cn ws wk wl wm fr fi (d + 1) (nI c) (nI i) := by
  intro d
  induction d with
  | zero => intro i c hi hp; exact br_t (by rw [hx]; exact nI_le (by omega) (by omega)) hp
  | succ d ih =>
    intro i c hi hp
    refine br_f (by rw [hx]; exact nI_ge (by omega) (by omega)) (xs_isLive (by omega) ?_)
    rw [ss_L, List.countP_cons] at hp
    cases hb : ss_lv xc o s (ss_at R F T N i) with
    | false =>
      rw [hb] at hp
      exact br_t rfl (nm_r (nI_1 i) (ih (i + 1) c (by omega) hp))
    | true =>
      rw [hb, if_pos rfl, ← Nat.add_assoc, Nat.add_right_comm] at hp
      exact br_f ss_10 (nm_r (nI_1 c) (nm_r (nI_1 i) (ih (i + 1) (c + 1) (by omega) hp)))
theorem xs_countLive {n : Nat} (hn : n ≤ 40) (hx : xn = nI n) (hp : post (nI ((ss_L (ss_at R F T N) 0 n).countP (ss_lv xc o s)))) : wpX_countLive post (xc, xr, xn, xf, R, F, T, N, o, s, cc, cr, ci, cg, cn, ws, wk, wl, wm, fr, fi) :=
  ⟨n + 1, xs_countLive_loop hn hx n 0 0 (by omega) (by rw [Nat.zero_add]; exact hp)⟩
theorem xs_countThere_loop {n : Nat} (hn : n ≤ 40) (hx : xn = nI n) : ∀ d i c, i + d = n → post (nI (c + (ss_L (ss_at R F T N) i d).countP (fun v => ss_hd v xc))) → wX_countThere_4 post xc xr xn xf R F T N o s cc cr ci cg cn ws wk wl wm fr fi (d + 1) (nI c) (nI i) := by
  intro d
  induction d with
  | zero => intro i c hi hp; exact br_t (by rw [hx]; exact nI_le (by omega) (by omega)) hp
  | succ d ih =>
    intro i c hi hp
    refine br_f (by rw [hx]; exact nI_ge (by omega) (by omega)) (xs_holds (by omega) ?_)
    rw [ss_L, List.countP_cons] at hp
    cases hb : ss_hd (ss_at R F T N i) xc with
    | false =>
      rw [hb] at hp
      exact br_t rfl (nm_r (nI_1 i) (ih (i + 1) c (by omega) hp))
    | true =>
      rw [hb, if_pos rfl, ← Nat.add_assoc, Nat.add_right_comm] at hp
      exact br_f ss_10 (nm_r (nI_1 c) (nm_r (nI_1 i) (ih (i + 1) (c + 1) (by omega) hp)))
theorem xs_countThere {n : Nat} (hn : n ≤ 40) (hx : xn = nI n) (hp : post (nI ((ss_L (ss_at R F T N) 0 n).countP (fun v => ss_hd v xc)))) : wpX_countThere post (xc, xr, xn, xf, R, F, T, N, o, s, cc, cr, ci, cg, cn, ws, wk, wl, wm, fr, fi) :=
  ⟨n + 1, xs_countThere_loop hn hx n 0 0 (by omega) (by rw [Nat.zero_add]; exact hp)⟩
theorem xs_countOpen_loop : ∀ d i c, i + d = 4 → post (nI (c + ss_no o i d)) → wX_countOpen_4 post xc xr xn xf R F T N o s cc cr ci cg cn ws wk wl wm fr fi (d + 1) (nI c) (nI i) := by
  intro d
  induction d with
  | zero => intro i c hi hp; exact br_t (nI_le (a := 4) (by omega) (by omega)) hp
  | succ d ih =>
    intro i c hi hp
    have hc : (nI i).toNatClampNeg = i := nI_clamp (by omega)
    rw [ss_no] at hp
    refine br_f (nI_ge (b := 4) (by omega) (by decide)) ⟨vp_in_nI (by omega) (by decide), ?_⟩
    rw [hc]
    refine br_c (fun z => ?_) (fun z => ?_)
    · rw [if_pos z, Nat.zero_add] at hp
      exact nm_r (nI_1 i) (ih (i + 1) c (by omega) hp)
    · rw [if_neg z, ← Nat.add_assoc] at hp
      exact nm_r (nI_1 c) (nm_r (nI_1 i) (ih (i + 1) (c + 1) (by omega) hp))
theorem xs_countOpen (hp : post (nI (ss_no o 0 4))) : wpX_countOpen post (xc, xr, xn, xf, R, F, T, N, o, s, cc, cr, ci, cg, cn, ws, wk, wl, wm, fr, fi) :=
  ⟨5, xs_countOpen_loop 4 0 0 rfl (by rw [Nat.zero_add]; exact hp)⟩
end
end
section
def ss_dj (v w : ss_V) : Prop := v.1 = w.1 → v.2.2.1.toInt ≤ w.2.1.toInt ∨ w.2.2.1.toInt ≤ v.2.1.toInt
def ss_gd (ck rc : Nat) (v : ss_V) : Prop :=
  v.1.toInt < (rc : Int) ∧ v.2.1.toInt ≤ (ck : Int) ∧ v.2.1.toInt < v.2.2.1.toInt ∧ (v.2.2.1.toInt = 2147483647 ∨ v.2.2.1.toInt ≤ (ck : Int))
def ss_n (cc : Nat → Int32) (t : Nat) : Nat := (cc t).toNatClampNeg
def ss_on (o cc : Nat → Int32) (t i : Nat) : Prop := t < 4 ∧ ¬ o t = 0 ∧ i < ss_n cc t
def ss_ok (ck rc : Nat) (o cc cr ci : Nat → Int32) (L : List ss_V) : Prop :=
  (∀ v ∈ L, ss_gd ck rc v) ∧ L.Pairwise ss_dj ∧ (∀ v ∈ L, ∀ t i, ss_on o cc t i → ¬ ci (8 * t + i) = 0 → ¬ v.1 = cr (8 * t + i))
def ss_cv (ck rc : Nat) (o s cc cr ci : Nat → Int32) (L : List ss_V) : Prop :=
  (∀ t, t < 4 → ¬ o t = 0 → cc t = nI (ss_n cc t) ∧ ss_n cc t ≤ 8 ∧ (s t).toInt ≤ (ck : Int)) ∧
  (∀ t i, ss_on o cc t i → (cr (8 * t + i)).toInt < (rc : Int)) ∧
  (∀ t i j, ss_on o cc t i → ss_on o cc t j → i ≠ j → ¬ cr (8 * t + i) = cr (8 * t + j)) ∧
  (∀ t i t' j, ss_on o cc t i → ss_on o cc t' j → ¬ ci (8 * t + i) = 0 → ¬ ci (8 * t' + j) = 0 → t ≠ t' → ¬ cr (8 * t + i) = cr (8 * t' + j)) ∧
  (∀ t i, ss_on o cc t i → ci (8 * t + i) = 0 → ∃ w ∈ L, w.1 = cr (8 * t + i) ∧ ss_hd w (s t) = true)
def ss_I (k ck rc : Nat) (o s cc cr ci : Nat → Int32) (LX LY : List ss_V) : Prop :=
  ck ≤ k ∧ rc ≤ k ∧ LX.filter (ss_lv (nI ck) o s) = LY.filter (ss_lv (nI ck) o s) ∧ (LY.filter (ss_lv (nI ck) o s)).length ≤ 40 ∧
  ss_ok ck rc o cc cr ci LX ∧ ss_ok ck rc o cc cr ci LY ∧ ss_cv ck rc o s cc cr ci LX
def ss_wr (ws wk wl wm yk yl ym : Nat → Int32) : Prop :=
  ∀ j, j < 2 → (∃ c, c < 3 ∧ wk j = nI c) ∧ ((ws j = 0 ∧ yk j < 0) ∨ (¬ ws j = 0 ∧ yk j = wk j ∧ yl j = wl j ∧ ym j = wm j))
def i_Rel (k : Nat) (u : SX) (v : SY) : Prop :=
  ∃ (ck rc nx ny : Nat) (xf yf : Int32) (R F T N VR VF VT VN o s cc cr ci cg cn ws wk wl wm fr fi yk yl ym sr si ke : Nat → Int32),
    u = (nI ck, nI rc, nI nx, xf, R, F, T, N, o, s, cc, cr, ci, cg, cn, ws, wk, wl, wm, fr, fi) ∧ v = (nI ny, nI ck, nI rc, yf, VR, VF, VT, VN, o, s, cc, cr, ci, cg, cn, yk, yl, ym, sr, si, ke) ∧
    nx ≤ 40 ∧ ny ≤ 48 ∧ ss_I k ck rc o s cc cr ci (ss_L (ss_at R F T N) 0 nx) (ss_L (ss_at VR VF VT VN) 0 ny) ∧ ss_wr ws wk wl wm yk yl ym
theorem ss_I_up {k ck rc : Nat} {o s cc cr ci : Nat → Int32} {LX LY : List ss_V} (h : ss_I k ck rc o s cc cr ci LX LY) : ss_I (k + 6) ck rc o s cc cr ci LX LY := by
  obtain ⟨h1, h2, h3⟩ := h
  exact ⟨by omega, by omega, h3⟩
theorem i_up {k : Nat} {u : SX} {v : SY} (h : i_Rel k u v) : i_Rel (k + 6) u v := by
  obtain ⟨ck, rc, nx, ny, xf, yf, R, F, T, N, VR, VF, VT, VN, o, s, cc, cr, ci, cg, cn, ws, wk, wl, wm, fr, fi, yk, yl, ym, sr, si, ke, eu, ev, h1, h2, h3, h4⟩ := h
  exact ⟨ck, rc, nx, ny, xf, yf, R, F, T, N, VR, VF, VT, VN, o, s, cc, cr, ci, cg, cn, ws, wk, wl, wm, fr, fi, yk, yl, ym, sr, si, ke, eu, ev, h1, h2, ss_I_up h3, h4⟩
theorem ss_flt {LX LY : List ss_V} {P Q : ss_V → Bool} (h : LX.filter Q = LY.filter Q) (hX : ∀ v ∈ LX, P v = true → Q v = true) (hY : ∀ v ∈ LY, P v = true → Q v = true) : LX.filter P = LY.filter P := by
  have g : ∀ L : List ss_V, (∀ v ∈ L, P v = true → Q v = true) → L.filter P = (L.filter Q).filter P := by
    intro L hL
    rw [List.filter_filter]
    refine List.filter_congr (fun v hv => ?_)
    cases hp : P v with
    | false => rfl
    | true => rw [hL v hv hp]; rfl
  rw [g LX hX, g LY hY, h]
theorem ss_flt' {LX LY : List ss_V} {P Q : ss_V → Bool} (h : LX.filter Q = LY.filter Q) (hX : ∀ v, P v = true → Q v = true) : LX.filter P = LY.filter P :=
  ss_flt h (fun v _ => hX v) (fun v _ => hX v)
theorem ss_cnt {LX LY : List ss_V} {P : ss_V → Bool} (h : LX.filter P = LY.filter P) : LX.countP P = LY.countP P := by
  rw [List.countP_eq_length_filter, List.countP_eq_length_filter, h]
theorem ss_fnd {LX LY : List ss_V} {P : ss_V → Bool} (h : LX.filter P = LY.filter P) : LX.find? P = LY.find? P := by
  rw [← List.head?_filter, ← List.head?_filter, h]
theorem ss_tr {L M : List ss_V} {Q : ss_V → Bool} (h : L.filter Q = M.filter Q) {w : ss_V} (hw : w ∈ L) (hq : Q w = true) : w ∈ M := by
  have : w ∈ M.filter Q := by rw [← h]; exact List.mem_filter.mpr ⟨hw, hq⟩
  exact (List.mem_filter.mp this).1
theorem ss_bool {a b : Bool} (h : a = true ↔ b = true) : a = b := by
  cases a <;> cases b <;> simp_all
theorem ss_lv_t {c : Int32} {o s : Nat → Int32} {v : ss_V} {t : Nat} (ht : t < 4) (ho : ¬ o t = 0) (h : ss_hd v (s t) = true) : ss_lv c o s v = true :=
  ss_lv_iff.mpr (Or.inr ⟨t, ht, ho, h⟩)
theorem ss_I_begin {k ck rc t : Nat} {o s cc cr ci : Nat → Int32} {LX LY : List ss_V} (h : ss_I k ck rc o s cc cr ci LX LY) (hk : k < 2 ^ 31) (ht : t < 4) (ho : o t = 0) :
    ss_I k ck rc (upd o t 1) (upd s t (nI ck)) (upd cc t 0) cr ci LX LY := by
  obtain ⟨h1, h2, h3, h4, hX, hY, hC⟩ := h
  have hl : ss_lv (nI ck) (upd o t 1) (upd s t (nI ck)) = ss_lv (nI ck) o s := by
    funext v
    refine ss_bool ?_
    rw [ss_lv_iff, ss_lv_iff]
    constructor
    · rintro (h | ⟨u, hu, h5, h6⟩)
      · exact Or.inl h
      · by_cases e : u = t
        · subst e; rw [ss_us] at h6; exact Or.inl h6
        · rw [ss_un e] at h5 h6; exact Or.inr ⟨u, hu, h5, h6⟩
    · rintro (h | ⟨u, hu, h5, h6⟩)
      · exact Or.inl h
      · have e : u ≠ t := fun e => h5 (e ▸ ho)
        exact Or.inr ⟨u, hu, by rw [ss_un e]; exact h5, by rw [ss_un e]; exact h6⟩
  have hn : ss_n (upd cc t 0) t = 0 := by unfold ss_n; rw [ss_us]; rfl
  have hn' : ∀ u, u ≠ t → ss_n (upd cc t 0) u = ss_n cc u := by intro u e; unfold ss_n; rw [ss_un e]
  have hon : ∀ u i, ss_on (upd o t 1) (upd cc t 0) u i → u ≠ t ∧ ss_on o cc u i := by
    intro u i ⟨a, b, c⟩
    by_cases e : u = t
    · subst e; rw [hn] at c; omega
    · rw [ss_un e] at b; rw [hn' u e] at c; exact ⟨e, a, b, c⟩
  have hok : ∀ L, ss_ok ck rc o cc cr ci L → ss_ok ck rc (upd o t 1) (upd cc t 0) cr ci L := by
    intro L ⟨a, b, c⟩
    exact ⟨a, b, fun v hv u i hu => c v hv u i (hon u i hu).2⟩
  refine ⟨h1, h2, by rw [hl]; exact h3, by rw [hl]; exact h4, hok _ hX, hok _ hY, ?_⟩
  obtain ⟨c1, c2, c3, c4, c5⟩ := hC
  refine ⟨?_, fun u i hu => c2 u i (hon u i hu).2, fun u i j hu hj => c3 u i j (hon u i hu).2 (hon u j hj).2, fun u i u' j hu hj => c4 u i u' j (hon u i hu).2 (hon u' j hj).2, ?_⟩
  · intro u hu h5
    by_cases e : u = t
    · subst e; rw [hn, ss_us, ss_us, nI_toInt (by omega)]; exact ⟨rfl, by omega, by omega⟩
    · rw [ss_un e] at h5; rw [hn' u e, ss_un e, ss_un e]; exact c1 u hu h5
  · intro u i hu h5
    obtain ⟨e, hu'⟩ := hon u i hu
    rw [ss_un e]; exact c5 u i hu' h5
theorem ss_I_close {k ck rc t : Nat} {o s cc cr ci : Nat → Int32} {LX LY : List ss_V} (h : ss_I k ck rc o s cc cr ci LX LY) :
    ss_I k ck rc (upd o t 0) s cc cr ci LX LY := by
  obtain ⟨h1, h2, h3, h4, hX, hY, hC⟩ := h
  have hl : ∀ v, ss_lv (nI ck) (upd o t 0) s v = true → ss_lv (nI ck) o s v = true := by
    intro v
    rw [ss_lv_iff, ss_lv_iff]
    rintro (h | ⟨u, hu, h5, h6⟩)
    · exact Or.inl h
    · by_cases e : u = t
      · subst e; rw [ss_us] at h5; exact absurd rfl h5
      · rw [ss_un e] at h5; exact Or.inr ⟨u, hu, h5, h6⟩
  have hon : ∀ u i, ss_on (upd o t 0) cc u i → ss_on o cc u i := by
    intro u i ⟨a, b, c⟩
    by_cases e : u = t
    · subst e; rw [ss_us] at b; exact absurd rfl b
    · rw [ss_un e] at b; exact ⟨a, b, c⟩
  have hok : ∀ L, ss_ok ck rc o cc cr ci L → ss_ok ck rc (upd o t 0) cc cr ci L := by
    intro L ⟨a, b, c⟩
    exact ⟨a, b, fun v hv u i hu => c v hv u i (hon u i hu)⟩
  refine ⟨h1, h2, ss_flt' h3 hl, ?_, hok _ hX, hok _ hY, ?_⟩
  · rw [← List.countP_eq_length_filter]
    rw [← List.countP_eq_length_filter] at h4
    exact Nat.le_trans (List.countP_mono_left (fun v _ => hl v)) h4
  obtain ⟨c1, c2, c3, c4, c5⟩ := hC
  refine ⟨?_, fun u i hu => c2 u i (hon u i hu), fun u i j hu hj => c3 u i j (hon u i hu) (hon u j hj), fun u i u' j hu hj => c4 u i u' j (hon u i hu) (hon u' j hj), fun u i hu => c5 u i (hon u i hu)⟩
  intro u hu h5
  by_cases e : u = t
  · subst e; rw [ss_us] at h5; exact absurd rfl h5
  · rw [ss_un e] at h5; exact c1 u hu h5
/-- t changes one row more -/
theorem ss_I_add {k ck rc rc' t cnt : Nat} {row f : Int32} {o s cc cr ci : Nat → Int32} {LX LY : List ss_V} (h : ss_I k ck rc o s cc cr ci LX LY)
    (ht : t < 4) (ho : ¬ o t = 0) (hc : cc t = nI cnt) (h8 : cnt < 8) (hr : rc ≤ rc') (hrk : rc' ≤ k + 6) (hrow : row.toInt < (rc' : Int))
    (hnew : ∀ i, ss_on o cc t i → ¬ cr (8 * t + i) = row)
    (hf1 : ¬ f = 0 → (∀ v, v ∈ LX → ¬ v.1 = row) ∧ (∀ v, v ∈ LY → ¬ v.1 = row) ∧ (∀ u i, ss_on o cc u i → ¬ cr (8 * u + i) = row))
    (hf0 : f = 0 → ∃ w ∈ LX, w.1 = row ∧ ss_hd w (s t) = true) :
    ss_I (k + 6) ck rc' o s (upd cc t (nI (cnt + 1))) (upd cr (8 * t + cnt) row) (upd ci (8 * t + cnt) f) LX LY := by
  obtain ⟨h1, h2, h3, h4, hX, hY, hC⟩ := h
  have hnt : ss_n cc t = cnt := by unfold ss_n; rw [hc, nI_clamp (by omega)]
  have hn : ss_n (upd cc t (nI (cnt + 1))) t = cnt + 1 := by unfold ss_n; rw [ss_us, nI_clamp (by omega)]
  have hn' : ∀ u, u ≠ t → ss_n (upd cc t (nI (cnt + 1))) u = ss_n cc u := by intro u e; unfold ss_n; rw [ss_un e]
  have hle : ∀ u i, ss_on o cc u i → i < 8 := by
    intro u i ⟨a, b, c⟩
    have := (hC.1 u a b).2.1
    omega
  have hon : ∀ u i, ss_on o (upd cc t (nI (cnt + 1))) u i → (u = t ∧ i = cnt) ∨ (ss_on o cc u i ∧ 8 * u + i ≠ 8 * t + cnt) := by
    intro u i ⟨a, b, c⟩
    by_cases e : u = t
    · subst e
      rw [hn] at c
      by_cases e2 : i = cnt
      · exact Or.inl ⟨rfl, e2⟩
      · exact Or.inr ⟨⟨a, b, by omega⟩, by omega⟩
    · rw [hn' u e] at c
      have h9 : ss_on o cc u i := ⟨a, b, c⟩
      have := hle u i h9
      exact Or.inr ⟨h9, by omega⟩
  have hok : ∀ L, (¬ f = 0 → ∀ v, v ∈ L → ¬ v.1 = row) → ss_ok ck rc o cc cr ci L → ss_ok ck rc' o (upd cc t (nI (cnt + 1))) (upd cr (8 * t + cnt) row) (upd ci (8 * t + cnt) f) L := by
    intro L hf ⟨a, b, c⟩
    refine ⟨fun v hv => ?_, b, fun v hv u i hu => ?_⟩
    · obtain ⟨a1, a2, a3, a4⟩ := a v hv
      exact ⟨by omega, a2, a3, a4⟩
    · rcases hon u i hu with ⟨rfl, rfl⟩ | ⟨hu', e⟩
      · rw [ss_us, ss_us]; exact fun hz => hf hz v hv
      · rw [ss_un e, ss_un e]; exact c v hv u i hu'
  refine ⟨by omega, hrk, h3, h4, hok _ (fun z => (hf1 z).1) hX, hok _ (fun z => (hf1 z).2.1) hY, ?_⟩
  obtain ⟨c1, c2, c3, c4, c5⟩ := hC
  refine ⟨?_, ?_, ?_, ?_, ?_⟩
  · intro u hu h5
    by_cases e : u = t
    · subst e; rw [hn, ss_us]; exact ⟨rfl, by omega, (c1 u hu h5).2.2⟩
    · rw [hn' u e, ss_un e]; exact c1 u hu h5
  · intro u i hu
    rcases hon u i hu with ⟨rfl, rfl⟩ | ⟨hu', e⟩
    · rw [ss_us]; exact hrow
    · rw [ss_un e]; have := c2 u i hu'; omega
  · intro u i j hu hj hij
    rcases hon u i hu with ⟨rfl, rfl⟩ | ⟨hu', e⟩
    · rcases hon u j hj with ⟨_, rfl⟩ | ⟨hj', e'⟩
      · exact absurd rfl hij
      · rw [ss_us, ss_un e']; exact fun z => hnew j hj' z.symm
    · rcases hon u j hj with ⟨rfl, rfl⟩ | ⟨hj', e'⟩
      · rw [ss_us, ss_un e]; exact hnew i hu'
      · rw [ss_un e, ss_un e']; exact c3 u i j hu' hj' hij
  · intro u i u' j hu hj hzi hzj hne
    rcases hon u i hu with ⟨rfl, rfl⟩ | ⟨hu', e⟩
    · rcases hon u' j hj with ⟨rfl, rfl⟩ | ⟨hj', e'⟩
      · exact absurd rfl hne
      · rw [ss_us] at hzi; rw [ss_us, ss_un e']; exact fun z => (hf1 hzi).2.2 u' j hj' z.symm
    · rcases hon u' j hj with ⟨rfl, rfl⟩ | ⟨hj', e'⟩
      · rw [ss_us] at hzj; rw [ss_us, ss_un e]; exact (hf1 hzj).2.2 u i hu'
      · rw [ss_un e] at hzi; rw [ss_un e'] at hzj; rw [ss_un e, ss_un e']; exact c4 u i u' j hu' hj' hzi hzj hne
  · intro u i hu hz
    rcases hon u i hu with ⟨rfl, rfl⟩ | ⟨hu', e⟩
    · rw [ss_us] at hz; rw [ss_us]; exact hf0 hz
    · rw [ss_un e] at hz; rw [ss_un e]; exact c5 u i hu' hz
theorem ss_I_pack {k ck rc : Nat} {o s cc cr ci : Nat → Int32} {LX LY : List ss_V} (h : ss_I k ck rc o s cc cr ci LX LY) :
    ss_I k ck rc o s cc cr ci (LX.filter (ss_lv (nI ck) o s)) LY := by
  obtain ⟨h1, h2, h3, h4, ⟨a, b, c⟩, hY, c1, c2, c3, c4, c5⟩ := h
  refine ⟨h1, h2, ?_, h4, ⟨fun v hv => a v (List.mem_filter.mp hv).1, b.sublist List.filter_sublist, fun v hv => c v (List.mem_filter.mp hv).1⟩, hY, c1, c2, c3, c4, ?_⟩
  · rw [List.filter_filter]
    rw [← h3]
    refine List.filter_congr (fun v _ => ?_)
    rw [Bool.and_self]
  · intro u i hu hz
    obtain ⟨w, hw, hw1, hw2⟩ := c5 u i hu hz
    exact ⟨w, List.mem_filter.mpr ⟨hw, ss_lv_t hu.1 hu.2.1 hw2⟩, hw1, hw2⟩
end
section
theorem ss_mk {k ck rc nx ny : Nat} {xf yf : Int32} {R F T N VR VF VT VN o s cc cr ci cg cn ws wk wl wm fr fi yk yl ym sr si ke : Nat → Int32}
    (h1 : nx ≤ 40) (h2 : ny ≤ 48) (h3 : ss_I k ck rc o s cc cr ci (ss_L (ss_at R F T N) 0 nx) (ss_L (ss_at VR VF VT VN) 0 ny)) (h4 : ss_wr ws wk wl wm yk yl ym) :
    i_Rel k (nI ck, nI rc, nI nx, xf, R, F, T, N, o, s, cc, cr, ci, cg, cn, ws, wk, wl, wm, fr, fi) (nI ny, nI ck, nI rc, yf, VR, VF, VT, VN, o, s, cc, cr, ci, cg, cn, yk, yl, ym, sr, si, ke) :=
  ⟨ck, rc, nx, ny, xf, yf, R, F, T, N, VR, VF, VT, VN, o, s, cc, cr, ci, cg, cn, ws, wk, wl, wm, fr, fi, yk, yl, ym, sr, si, ke, rfl, rfl, h1, h2, h3, h4⟩
theorem i_vc0 : wpX_init (fun u => wpY_init (fun v => i_Rel 0 u v)) := by
  refine nm_e (nm_e ?_)
  refine ss_mk (ck := 0) (rc := 0) (nx := 0) (ny := 0) (by omega) (by omega) ⟨by omega, by omega, rfl, by decide, ?_, ?_, ?_⟩ ?_
  · exact ⟨fun v hv => absurd hv List.not_mem_nil, List.Pairwise.nil, fun v hv => absurd hv List.not_mem_nil⟩
  · exact ⟨fun v hv => absurd hv List.not_mem_nil, List.Pairwise.nil, fun v hv => absurd hv List.not_mem_nil⟩
  · exact ⟨fun t _ h => absurd rfl h, fun t i h => absurd rfl h.2.1, fun t i j h => absurd rfl h.2.1, fun t i u j h => absurd rfl h.2.1, fun t i h => absurd rfl h.2.1⟩
  · intro j hj
    refine ⟨⟨0, by omega, rfl⟩, Or.inl ⟨rfl, ?_⟩⟩
    match j, hj with
    | 0, _ => decide
    | 1, _ => decide
/-- the first that is closed -/
def ss_fo (o : Nat → Int32) : Nat → Nat → Nat
  | i, 0 => i
  | i, d + 1 => if o i = 0 then i else ss_fo o (i + 1) d
section
variable {xc xr xn xf : Int32} {R F T N o s cc cr ci cg cn ws wk wl wm fr fi : Nat → Int32}
variable {post : Int32 → SX → Prop}
theorem xs_begin_loop : ∀ d i, i + d = 4 → (ss_fo o i d = 4 → post (-1) (xc, xr, xn, xf, R, F, T, N, o, s, cc, cr, ci, cg, cn, ws, wk, wl, wm, fr, fi)) → (∀ j, j < 4 → ss_fo o i d = j → o j = 0 → post (nI j) (xc, xr, xn, xf, R, F, T, N, upd o j 1, upd s j xc, upd cc j 0, cr, ci, cg, cn, ws, wk, wl, wm, fr, fi)) → wX_begin_2 post xc xr xn xf R F T N o s cc cr ci cg cn ws wk wl wm fr fi (d + 1) (nI i) := by
  intro d
  induction d with
  | zero => intro i hi h1 h2; exact br_t (nI_le (a := 4) (by omega) (by omega)) (h1 (by rw [ss_fo]; omega))
  | succ d ih =>
    intro i hi h1 h2
    have hc : (nI i).toNatClampNeg = i := nI_clamp (by omega)
    have hv : vp_in (nI i) 4 := vp_in_nI (by omega) (by decide)
    rw [ss_fo] at h1 h2
    refine br_f (nI_ge (b := 4) (by omega) (by decide)) ⟨hv, br_c (fun z => ?_) (fun z => ?_)⟩
    · rw [hc] at z
      rw [if_pos z] at h2
      exact ⟨hv, nm_r (e' := upd o i 1) (by rw [hc]; rfl) ⟨hv, nm_r (e' := upd s i xc) (by rw [hc]) ⟨hv, nm_r (e' := upd cc i 0) (by rw [hc]) (h2 i (by omega) rfl z)⟩⟩⟩
    · rw [hc] at z
      rw [if_neg z] at h1 h2
      exact nm_r (nI_1 i) (ih (i + 1) (by omega) h1 h2)
theorem xs_addChange {row : Int32} {t cnt : Nat} (ht : t < 4) (hc : cc t = nI cnt) (h8 : cnt < 8) (hp : post (nI (8 * t + cnt)) (xc, xr, xn, xf, R, F, T, N, o, s, upd cc t (nI (cnt + 1)), upd cr (8 * t + cnt) row, upd ci (8 * t + cnt) 0, upd cg (8 * t + cnt) 0, cn, ws, wk, wl, wm, fr, fi)) : wpX_addChange post (xc, xr, xn, xf, R, F, T, N, o, s, cc, cr, ci, cg, cn, ws, wk, wl, wm, fr, fi) (nI t) row := by
  have hv : vp_in (nI t) 4 := vp_in_nI ht (by decide)
  have hk : (nI t).toNatClampNeg = t := nI_clamp (by omega)
  have hv2 : vp_in (nI (8 * t + cnt)) 32 := vp_in_nI (by omega) (by decide)
  have hk2 : (nI (8 * t + cnt)).toNatClampNeg = 8 * t + cnt := nI_clamp (by omega)
  exact ⟨hv, nm_r (by rw [hk, hc, ss_i8]) ⟨hv, hv, nm_r (e' := upd cc t (nI (cnt + 1))) (by rw [hk, hc, nI_1]) ⟨hv2, nm_r (by rw [hk2]) ⟨hv2, nm_r (by rw [hk2]; rfl) ⟨hv2, nm_r (by rw [hk2]; rfl) hp⟩⟩⟩⟩⟩
end
section
variable {yn yc yr yf : Int32} {R F T N o s cc cr ci cg cn yk yl ym sr si ke : Nat → Int32}
variable {post : Int32 → SY → Prop}
theorem ys_begin_loop : ∀ d i, i + d = 4 → (ss_fo o i d = 4 → post (-1) (yn, yc, yr, yf, R, F, T, N, o, s, cc, cr, ci, cg, cn, yk, yl, ym, sr, si, ke)) → (∀ j, j < 4 → ss_fo o i d = j → o j = 0 → post (nI j) (yn, yc, yr, yf, R, F, T, N, upd o j 1, upd s j yc, upd cc j 0, cr, ci, cg, cn, yk, yl, ym, sr, si, ke)) → wY_begin_2 post yn yc yr yf R F T N o s cc cr ci cg cn yk yl ym sr si ke (d + 1) (nI i) := by
  intro d
  induction d with
  | zero => intro i hi h1 h2; exact br_t (nI_le (a := 4) (by omega) (by omega)) (h1 (by rw [ss_fo]; omega))
  | succ d ih =>
    intro i hi h1 h2
    have hc : (nI i).toNatClampNeg = i := nI_clamp (by omega)
    have hv : vp_in (nI i) 4 := vp_in_nI (by omega) (by decide)
    rw [ss_fo] at h1 h2
    refine br_f (nI_ge (b := 4) (by omega) (by decide)) ⟨hv, br_c (fun z => ?_) (fun z => ?_)⟩
    · rw [hc] at z
      rw [if_pos z] at h2
      exact ⟨hv, nm_r (e' := upd o i 1) (by rw [hc]; rfl) ⟨hv, nm_r (e' := upd s i yc) (by rw [hc]) ⟨hv, nm_r (e' := upd cc i 0) (by rw [hc]) (h2 i (by omega) rfl z)⟩⟩⟩
    · rw [hc] at z
      rw [if_neg z] at h1 h2
      exact nm_r (nI_1 i) (ih (i + 1) (by omega) h1 h2)
end
theorem i_vc_begin {k : Nat} {u : SX} {v : SY} (I : i_Rel k u v) (hk : k + 6 ≤ 3072) : wpX_begin (fun r u' => wpY_begin (fun r' v' => r' = r ∧ i_Rel (k + 6) u' v') v) u := by
  obtain ⟨ck, rc, nx, ny, xf, yf, R, F, T, N, VR, VF, VT, VN, o, s, cc, cr, ci, cg, cn, ws, wk, wl, wm, fr, fi, yk, yl, ym, sr, si, ke, rfl, rfl, h1, h2, h3, h4⟩ := I
  refine ⟨5, xs_begin_loop 4 0 rfl (fun hf => ⟨5, ys_begin_loop 4 0 rfl (fun _ => ⟨rfl, ?_⟩) (fun j hj hf' _ => ?_)⟩) (fun j hj hf ho => ⟨5, ys_begin_loop 4 0 rfl (fun hf' => ?_) (fun j' hj' hf' _ => ?_)⟩)⟩
  · exact ss_mk h1 h2 (ss_I_up h3) h4
  · omega
  · omega
  · have e : j' = j := by omega
    subst e
    exact ⟨rfl, ss_mk h1 h2 (ss_I_up (ss_I_begin h3 (by omega) hj ho)) h4⟩
theorem i_vc_abort {k : Nat} {u : SX} {v : SY} (I : i_Rel k u v) (hk : k + 6 ≤ 3072) (v1 : Int32) : wpX_abort (fun r u' => wpY_abort (fun r' v' => r' = r ∧ i_Rel (k + 6) u' v') v v1) u v1 := by
  obtain ⟨ck, rc, nx, ny, xf, yf, R, F, T, N, VR, VF, VT, VN, o, s, cc, cr, ci, cg, cn, ws, wk, wl, wm, fr, fi, yk, yl, ym, sr, si, ke, rfl, rfl, h1, h2, h3, h4⟩ := I
  unfold wpX_abort wpY_abort; dsimp only
  by_cases ho : ss_op o v1
  · refine xs_isOpen_t ho (br_f ss_10 ?_)
    have ho' := ho
    obtain ⟨t, ht, rfl, hot⟩ := ho'
    have hv : vp_in (nI t) 4 := vp_in_nI ht (by decide)
    have hc : (nI t).toNatClampNeg = t := nI_clamp (by omega)
    refine ⟨hv, nm_r (e' := upd o t 0) (by rw [hc]; rfl) (ys_isOpen_t ho (br_f ss_10 ⟨hv, nm_r (e' := upd o t 0) (by rw [hc]; rfl) ⟨rfl, rfl, ?_⟩⟩))⟩
    exact ss_mk h1 h2 (ss_I_up (ss_I_close h3)) h4
  · exact xs_isOpen_f ho (br_t rfl (ys_isOpen_f ho (br_t rfl ⟨rfl, rfl, ss_mk h1 h2 (ss_I_up h3) h4⟩)))
theorem i_vc_where {k : Nat} {u : SX} {v : SY} (I : i_Rel k u v) (hk : k + 6 ≤ 3072) (v1 : Int32) (v2 : Int32) (v3 : Int32) (v4 : Int32) : wpX_where (fun r u' => wpY_where (fun r' v' => r' = r ∧ i_Rel (k + 6) u' v') v v1 v2 v3 v4) u v1 v2 v3 v4 := by
  obtain ⟨ck, rc, nx, ny, xf, yf, R, F, T, N, VR, VF, VT, VN, o, s, cc, cr, ci, cg, cn, ws, wk, wl, wm, fr, fi, yk, yl, ym, sr, si, ke, rfl, rfl, h1, h2, h3, h4⟩ := I
  unfold wpX_where wpY_where; dsimp only
  by_cases ha : ss_am v1 2
  · have ha' := ha
    obtain ⟨j, hj, rfl⟩ := ha'
    have hv : vp_in (nI j) 2 := vp_in_nI hj (by decide)
    have hc : (nI j).toNatClampNeg = j := nI_clamp (by omega)
    refine br_f (nI_pos (by omega)) (br_t (nI_lt (b := 2) hj (by decide)) (br_c (fun e => ?_) (fun e => ?_)))
    · subst e
      refine ⟨hv, nm_r (e' := upd ws j 0) (by rw [hc]; rfl) ?_⟩
      refine ys_among_t (n := 2) rfl (by decide) ha (br_f ss_10 (br_f (by decide) (br_t (by decide) ⟨hv, nm_r (e' := upd yk j (-1)) (by rw [hc]) ⟨hv, nm_r (e' := upd yl j v3) (by rw [hc]) ⟨hv, nm_r (e' := upd ym j v4) (by rw [hc]) ⟨rfl, ?_⟩⟩⟩⟩)))
      refine ss_mk h1 h2 (ss_I_up h3) ?_
      intro i hi
      obtain ⟨a, b⟩ := h4 i hi
      by_cases ij : i = j
      · subst ij; rw [ss_us, ss_us]; exact ⟨a, Or.inl ⟨rfl, ss_m0⟩⟩
      · rw [ss_un ij, ss_un ij, ss_un ij, ss_un ij]; exact ⟨a, b⟩
    · by_cases hb : ss_am v2 3
      · refine xs_isColumn_t hb (br_f ss_10 ⟨hv, nm_r (e' := upd ws j 1) (by rw [hc]; rfl) ⟨hv, nm_r (e' := upd wk j v2) (by rw [hc]) ⟨hv, nm_r (e' := upd wl j v3) (by rw [hc]) ⟨hv, nm_r (e' := upd wm j v4) (by rw [hc]) ?_⟩⟩⟩⟩)
        obtain ⟨c, hc3, rfl⟩ := hb
        refine ys_among_t (n := 2) rfl (by decide) ha (br_f ss_10 (br_f ?_ (br_t (nI_le (b := 2) (by omega) (by decide)) ⟨hv, nm_r (e' := upd yk j (nI c)) (by rw [hc]) ⟨hv, nm_r (e' := upd yl j v3) (by rw [hc]) ⟨hv, nm_r (e' := upd ym j v4) (by rw [hc]) ⟨rfl, ?_⟩⟩⟩⟩)))
        · have e1 : (-1 : Int32).toInt = -1 := by decide
          rw [ss_lt, nI_toInt (by omega), e1]; omega
        · refine ss_mk h1 h2 (ss_I_up h3) ?_
          intro i hi
          obtain ⟨a, b⟩ := h4 i hi
          by_cases ij : i = j
          · subst ij; rw [ss_us, ss_us, ss_us, ss_us, ss_us, ss_us, ss_us]; exact ⟨⟨c, hc3, rfl⟩, Or.inr ⟨ss_10, rfl, rfl, rfl⟩⟩
          · rw [ss_un ij, ss_un ij, ss_un ij, ss_un ij, ss_un ij, ss_un ij, ss_un ij]; exact ⟨a, b⟩
      · refine xs_isColumn_f hb (br_t rfl ?_)
        have hR : i_Rel (k + 6) (nI ck, nI rc, nI nx, xf, R, F, T, N, o, s, cc, cr, ci, cg, cn, ws, wk, wl, wm, fr, fi) (nI ny, nI ck, nI rc, yf, VR, VF, VT, VN, o, s, cc, cr, ci, cg, cn, yk, yl, ym, sr, si, ke) := ss_mk h1 h2 (ss_I_up h3) h4
        refine ys_among_t (n := 2) rfl (by decide) ha (br_f ss_10 (br_c (fun _ => ⟨rfl, hR⟩) (fun hm => br_c (fun hm2 => ?_) (fun _ => ⟨rfl, hR⟩))))
        exfalso
        rw [ss_lt] at hm
        rw [ss_le] at hm2
        have e1 : (-1 : Int32).toInt = -1 := by decide
        have e2 : (2 : Int32).toInt = 2 := by decide
        have h0 : ¬ v2 < 0 := by
          intro hz
          rw [ss_lt] at hz
          have e3 : (0 : Int32).toInt = 0 := by decide
          exact e (by rw [ss_eq]; omega)
        obtain ⟨c, hc1, rfl⟩ := nI_of h0
        rw [nI_toInt hc1] at hm2
        exact hb ⟨c, by omega, rfl⟩
  · have hR : i_Rel (k + 6) (nI ck, nI rc, nI nx, xf, R, F, T, N, o, s, cc, cr, ci, cg, cn, ws, wk, wl, wm, fr, fi) (nI ny, nI ck, nI rc, yf, VR, VF, VT, VN, o, s, cc, cr, ci, cg, cn, yk, yl, ym, sr, si, ke) := ss_mk h1 h2 (ss_I_up h3) h4
    have hY : wpY_among (fun r_1 => (((r_1 = 0 → ((0 : Int32) = 0 ∧ i_Rel (k + 6) (nI ck, nI rc, nI nx, xf, R, F, T, N, o, s, cc, cr, ci, cg, cn, ws, wk, wl, wm, fr, fi) (nI ny, nI ck, nI rc, yf, VR, VF, VT, VN, o, s, cc, cr, ci, cg, cn, yk, yl, ym, sr, si, ke))) ∧ (¬ r_1 = 0 → False)))) (nI ny, nI ck, nI rc, yf, VR, VF, VT, VN, o, s, cc, cr, ci, cg, cn, yk, yl, ym, sr, si, ke) v1 2 :=
      ys_among_f (n := 2) rfl (by decide) ha (br_t rfl ⟨rfl, hR⟩)
    refine br_c (fun _ => ys_among_f (n := 2) rfl (by decide) ha (br_t rfl ⟨rfl, hR⟩)) (fun h0 => br_c (fun h9 => ?_) (fun _ => ys_among_f (n := 2) rfl (by decide) ha (br_t rfl ⟨rfl, hR⟩)))
    exfalso
    obtain ⟨c, hc1, rfl⟩ := nI_of h0
    exact ha ⟨c, (nI_ltI (b := 2) hc1 (by decide)).mp h9, rfl⟩
theorem i_vc_insert {k : Nat} {u : SX} {v : SY} (I : i_Rel k u v) (hk : k + 6 ≤ 3072) (v1 : Int32) (v2 : Int32) (v3 : Int32) (v4 : Int32) : wpX_insert (fun r u' => wpY_insert (fun r' v' => r' = r ∧ i_Rel (k + 6) u' v') v v1 v2 v3 v4) u v1 v2 v3 v4 := by
  obtain ⟨ck, rc, nx, ny, xf, yf, R, F, T, N, VR, VF, VT, VN, o, s, cc, cr, ci, cg, cn, ws, wk, wl, wm, fr, fi, yk, yl, ym, sr, si, ke, rfl, rfl, h1, h2, h3, h4⟩ := I
  unfold wpX_insert wpY_insert; dsimp only
  by_cases ho : ss_op o v1
  · refine xs_isOpen_t ho (br_f ss_10 ?_)
    have ho' := ho
    obtain ⟨t, ht, rfl, hot⟩ := ho'
    have hv : vp_in (nI t) 4 := vp_in_nI ht (by decide)
    have hc : (nI t).toNatClampNeg = t := nI_clamp (by omega)
    obtain ⟨hcc, h8, _⟩ := h3.2.2.2.2.2.2.1 t ht hot
    have hs : ∃ cnt, cnt = ss_n cc t := ⟨_, rfl⟩
    obtain ⟨cnt, hs⟩ := hs
    rw [← hs] at hcc h8
    rw [hc, hcc]
    by_cases h9 : cnt < 8
    · have hv2 : vp_in (nI (8 * t + cnt)) 32 := vp_in_nI (by omega) (by decide)
      have hk2 : (nI (8 * t + cnt)).toNatClampNeg = 8 * t + cnt := nI_clamp (by omega)
      have hv3 : vp_in (nI (3 * (8 * t + cnt))) 96 := vp_in_nI (by omega) (by decide)
      have hv4 : vp_in (nI (3 * (8 * t + cnt) + 1)) 96 := vp_in_nI (by omega) (by decide)
      have hv5 : vp_in (nI (3 * (8 * t + cnt) + 2)) 96 := vp_in_nI (by omega) (by decide)
      have hk3 : (nI (3 * (8 * t + cnt))).toNatClampNeg = 3 * (8 * t + cnt) := nI_clamp (by omega)
      have hk4 : (nI (3 * (8 * t + cnt) + 1)).toNatClampNeg = 3 * (8 * t + cnt) + 1 := nI_clamp (by omega)
      have hk5 : (nI (3 * (8 * t + cnt) + 2)).toNatClampNeg = 3 * (8 * t + cnt) + 2 := nI_clamp (by omega)
      refine ⟨hv, br_t (nI_lt (b := 8) h9 (by decide)) (nm_r (nI_1 rc) (xs_addChange ht hcc h9 ?_))⟩
      dsimp only
      rw [ss_j3, nI_1, ss_2, hk2, hk3, hk4, hk5]
      refine ⟨hv2, nm_r (e' := upd ci (8 * t + cnt) 1) ss_uu ⟨hv3, nm_e ⟨hv4, nm_e ⟨hv5, nm_e ?_⟩⟩⟩⟩
      refine ys_isOpen_t ho (br_f ss_10 ⟨hv, ?_⟩)
      refine br_f (fun z => ?_) ⟨hv, hv, nm_r (by rw [nI_1]) (nm_r (ss_8i t cnt) ?_)⟩
      · exact absurd ((nI_eq (b := 8) (by omega) (by decide)).mp z) (by omega)
      · rw [ss_3j, nI_1, ss_2, hk2, hk3, hk4, hk5]
        refine ⟨hv2, nm_e ⟨hv2, nm_r (e' := upd ci (8 * t + cnt) 1) rfl ⟨hv2, nm_r (e' := upd cg (8 * t + cnt) 0) rfl ⟨hv3, nm_e ⟨hv4, nm_e ⟨hv5, nm_e (nm_r (nI_1 rc) ⟨rfl, ?_⟩)⟩⟩⟩⟩⟩⟩
        refine ss_mk h1 h2 (ss_I_add h3 ht hot hcc h9 (by omega) (by have := h3.2.1; omega) ?_ ?_ (fun _ => ⟨?_, ?_, ?_⟩) (fun z => absurd z ss_10)) h4
        all_goals have hrc := h3.2.1
        · rw [nI_toInt (by omega)]; omega
        · intro i hi e
          have := h3.2.2.2.2.2.2.2.1 t i hi
          rw [e, nI_toInt (by omega)] at this; omega
        · intro w hw e
          have := (h3.2.2.2.2.1.1 w hw).1
          rw [e, nI_toInt (by omega)] at this; omega
        · intro w hw e
          have := (h3.2.2.2.2.2.1.1 w hw).1
          rw [e, nI_toInt (by omega)] at this; omega
        · intro u i hi e
          have := h3.2.2.2.2.2.2.2.1 u i hi
          rw [e, nI_toInt (by omega)] at this; omega
    · have e8 : cnt = 8 := by omega
      subst e8
      refine ⟨hv, br_f (by decide) (ys_isOpen_t ho (br_f ss_10 ⟨hv, ?_⟩))⟩
      exact br_t (by decide) ⟨rfl, ss_mk h1 h2 (ss_I_up h3) h4⟩
  · exact xs_isOpen_f ho (br_t rfl (ys_isOpen_f ho (br_t rfl ⟨rfl, ss_mk h1 h2 (ss_I_up h3) h4⟩)))
end
section
theorem ss_k30 (i : Nat) : nI i * 3 + 0 = nI (3 * i) := ss_i3 i 0
theorem ss_k31 (i : Nat) : nI i * 3 + 1 = nI (3 * i + 1) := ss_i3 i 1
theorem ss_k32 (i : Nat) : nI i * 3 + 2 = nI (3 * i + 2) := ss_i3 i 2
theorem ss_z30 (i : Nat) : 3 * nI i + 0 = nI (3 * i) := ss_3i i 0
theorem ss_z31 (i : Nat) : 3 * nI i + 1 = nI (3 * i + 1) := ss_3i i 1
theorem ss_z32 (i : Nat) : 3 * nI i + 2 = nI (3 * i + 2) := ss_3i i 2
def ss_st (a : Nat → Int32) (i : Nat) (v : ss_V) : Nat → Int32 := upd (upd (upd a (3 * i) v.2.2.2.1) (3 * i + 1) v.2.2.2.2.1) (3 * i + 2) v.2.2.2.2.2
section
variable {xc xr xn xf : Int32} {R F T N o s cc cr ci cg cn ws wk wl wm fr fi : Nat → Int32}
variable {pr : Int32 → Prop}
theorem xs_fv_n {row tm : Int32} {n : Nat} (hn : n ≤ 40) (hx : xn = nI n) (hf : (ss_L (ss_at R F T N) 0 n).find? (ss_fp row tm) = none) (hp : pr (-1)) : wpX_findVersion pr (xc, xr, xn, xf, R, F, T, N, o, s, cc, cr, ci, cg, cn, ws, wk, wl, wm, fr, fi) row tm := by
  refine xs_findVersion hn hx (fun r hr => ?_)
  rcases hr with ⟨rfl, _⟩ | ⟨j, _, _, h⟩
  · exact hp
  · rw [hf] at h; exact nomatch h
theorem xs_fv_s {row tm : Int32} {n : Nat} {v : ss_V} (hn : n ≤ 40) (hx : xn = nI n) (hf : (ss_L (ss_at R F T N) 0 n).find? (ss_fp row tm) = some v) (hp : ∀ j, j < n → v = ss_at R F T N j → pr (nI j)) : wpX_findVersion pr (xc, xr, xn, xf, R, F, T, N, o, s, cc, cr, ci, cg, cn, ws, wk, wl, wm, fr, fi) row tm := by
  refine xs_findVersion hn hx (fun r hr => ?_)
  rcases hr with ⟨_, h⟩ | ⟨j, hj, rfl, h⟩
  · rw [hf] at h; exact nomatch h
  · rw [hf] at h; exact hp j hj (Option.some.inj h)
variable {post : Int32 → SX → Prop} {row : Int32} {t cnt n : Nat}
theorem xs_slot_A0 {j : Nat} (ht : t < 4) (hc : cc t = nI cnt) (h8 : cnt ≤ 8) (hf : ss_fc cr row (8 * t) cnt = nI j) (hj : j < 32) (hg : cg j = 0) (hp : post (nI j) (xc, xr, xn, xf, R, F, T, N, o, s, cc, cr, ci, cg, cn, ws, wk, wl, wm, fr, fi)) : wpX_slotToChange post (xc, xr, xn, xf, R, F, T, N, o, s, cc, cr, ci, cg, cn, ws, wk, wl, wm, fr, fi) (nI t) row := by
  unfold wpX_slotToChange; dsimp only
  refine xs_findChange ht hc h8 ?_
  rw [hf, nI_clamp (n := j) (by omega)]
  exact br_f (nI_pos (by omega)) ⟨vp_in_nI hj (by decide), br_t hg hp⟩
theorem xs_slot_A1 {j : Nat} (ht : t < 4) (hc : cc t = nI cnt) (h8 : cnt ≤ 8) (hf : ss_fc cr row (8 * t) cnt = nI j) (hj : j < 32) (hg : ¬ cg j = 0) (hp : post (-1) (xc, xr, xn, xf, R, F, T, N, o, s, cc, cr, ci, cg, cn, ws, wk, wl, wm, fr, fi)) : wpX_slotToChange post (xc, xr, xn, xf, R, F, T, N, o, s, cc, cr, ci, cg, cn, ws, wk, wl, wm, fr, fi) (nI t) row := by
  unfold wpX_slotToChange; dsimp only
  refine xs_findChange ht hc h8 ?_
  rw [hf, nI_clamp (n := j) (by omega)]
  exact br_f (nI_pos (by omega)) ⟨vp_in_nI hj (by decide), br_f hg hp⟩
theorem xs_slot_B (ht : t < 4) (hc : cc t = nI cnt) (h8 : cnt ≤ 8) (hf : ss_fc cr row (8 * t) cnt = -1) (hn : n ≤ 40) (hx : xn = nI n) (hv : (ss_L (ss_at R F T N) 0 n).find? (ss_fp row (s t)) = none) (hp : post (-1) (xc, xr, xn, xf, R, F, T, N, o, s, cc, cr, ci, cg, cn, ws, wk, wl, wm, fr, fi)) : wpX_slotToChange post (xc, xr, xn, xf, R, F, T, N, o, s, cc, cr, ci, cg, cn, ws, wk, wl, wm, fr, fi) (nI t) row := by
  unfold wpX_slotToChange; dsimp only
  refine xs_findChange ht hc h8 ?_
  rw [hf, nI_clamp (n := t) (by omega)]
  exact br_t ss_m0 ⟨vp_in_nI ht (by decide), xs_fv_n hn hx hv (br_f (by decide) hp)⟩
theorem xs_slot_C {v : ss_V} (ht : t < 4) (hc : cc t = nI cnt) (h8 : cnt = 8) (hf : ss_fc cr row (8 * t) cnt = -1) (hn : n ≤ 40) (hx : xn = nI n) (hv : (ss_L (ss_at R F T N) 0 n).find? (ss_fp row (s t)) = some v) (hp : post (-3) (xc, xr, xn, xf, R, F, T, N, o, s, cc, cr, ci, cg, cn, ws, wk, wl, wm, fr, fi)) : wpX_slotToChange post (xc, xr, xn, xf, R, F, T, N, o, s, cc, cr, ci, cg, cn, ws, wk, wl, wm, fr, fi) (nI t) row := by
  unfold wpX_slotToChange; dsimp only
  refine xs_findChange ht hc (by omega) ?_
  rw [hf, nI_clamp (n := t) (by omega), hc]
  refine br_t ss_m0 ⟨vp_in_nI ht (by decide), xs_fv_s hn hx hv (fun j hj _ => br_t (nI_pos' (by omega)) ⟨vp_in_nI ht (by decide), br_f ?_ hp⟩)⟩
  rw [h8]; decide
theorem xs_slot_D {v : ss_V} (ht : t < 4) (hc : cc t = nI cnt) (h8 : cnt < 8) (hf : ss_fc cr row (8 * t) cnt = -1) (hn : n ≤ 40) (hx : xn = nI n) (hv : (ss_L (ss_at R F T N) 0 n).find? (ss_fp row (s t)) = some v) (hp : post (nI (8 * t + cnt)) (xc, xr, xn, xf, R, F, T, N, o, s, upd cc t (nI (cnt + 1)), upd cr (8 * t + cnt) row, upd ci (8 * t + cnt) 0, upd cg (8 * t + cnt) 0, ss_st cn (8 * t + cnt) v, ws, wk, wl, wm, fr, fi)) : wpX_slotToChange post (xc, xr, xn, xf, R, F, T, N, o, s, cc, cr, ci, cg, cn, ws, wk, wl, wm, fr, fi) (nI t) row := by
  unfold wpX_slotToChange; dsimp only
  refine xs_findChange ht hc (by omega) ?_
  rw [hf, nI_clamp (n := t) (by omega), hc]
  refine br_t ss_m0 ⟨vp_in_nI ht (by decide), xs_fv_s hn hx hv (fun j hj ej => br_t (nI_pos' (by omega)) ⟨vp_in_nI ht (by decide), br_t (nI_lt (b := 8) h8 (by decide)) (xs_addChange ht hc h8 ?_)⟩)⟩
  rw [ej] at hp
  exact ⟨4, br_f (by decide) ⟨by rw [ss_k30 j]; exact vp_in_nI (by omega) (by decide), by rw [ss_k30 (8 * t + cnt)]; exact vp_in_nI (by omega) (by decide), nm_r (e' := upd cn (3 * (8 * t + cnt)) (N (3 * j))) (by rw [ss_k30 (8 * t + cnt), ss_k30 j, nI_clamp (n := 3 * (8 * t + cnt)) (by omega), nI_clamp (n := 3 * j) (by omega)]) (nm_r (e' := 1) (by decide) (br_f (by decide) ⟨by rw [ss_k31 j]; exact vp_in_nI (by omega) (by decide), by rw [ss_k31 (8 * t + cnt)]; exact vp_in_nI (by omega) (by decide), nm_r (e' := upd (upd cn (3 * (8 * t + cnt)) (N (3 * j))) (3 * (8 * t + cnt) + 1) (N (3 * j + 1))) (by rw [ss_k31 (8 * t + cnt), ss_k31 j, nI_clamp (n := 3 * (8 * t + cnt) + 1) (by omega), nI_clamp (n := 3 * j + 1) (by omega)]) (nm_r (e' := 2) (by decide) (br_f (by decide) ⟨by rw [ss_k32 j]; exact vp_in_nI (by omega) (by decide), by rw [ss_k32 (8 * t + cnt)]; exact vp_in_nI (by omega) (by decide), nm_r (e' := upd (upd (upd cn (3 * (8 * t + cnt)) (N (3 * j))) (3 * (8 * t + cnt) + 1) (N (3 * j + 1))) (3 * (8 * t + cnt) + 2) (N (3 * j + 2))) (by rw [ss_k32 (8 * t + cnt), ss_k32 j, nI_clamp (n := 3 * (8 * t + cnt) + 2) (by omega), nI_clamp (n := 3 * j + 2) (by omega)]) (nm_r (e' := 3) (by decide) (br_t (by decide) hp))⟩))⟩))⟩⟩
end
section
variable {yn yc yr yf : Int32} {R F T N o s cc cr ci cg cn yk yl ym sr si ke : Nat → Int32}
variable {pr : Int32 → Prop}
theorem ys_fv_n {row tm : Int32} {n : Nat} (hn : n ≤ 56) (hx : yn = nI n) (hf : (ss_L (ss_at R F T N) 0 n).find? (ss_fp row tm) = none) (hp : pr (-1)) : wpY_versionAt pr (yn, yc, yr, yf, R, F, T, N, o, s, cc, cr, ci, cg, cn, yk, yl, ym, sr, si, ke) row tm := by
  refine ys_versionAt hn hx (fun r hr => ?_)
  rcases hr with ⟨rfl, _⟩ | ⟨j, _, _, h⟩
  · exact hp
  · rw [hf] at h; exact nomatch h
theorem ys_fv_s {row tm : Int32} {n : Nat} {v : ss_V} (hn : n ≤ 56) (hx : yn = nI n) (hf : (ss_L (ss_at R F T N) 0 n).find? (ss_fp row tm) = some v) (hp : ∀ j, j < n → v = ss_at R F T N j → pr (nI j)) : wpY_versionAt pr (yn, yc, yr, yf, R, F, T, N, o, s, cc, cr, ci, cg, cn, yk, yl, ym, sr, si, ke) row tm := by
  refine ys_versionAt hn hx (fun r hr => ?_)
  rcases hr with ⟨_, h⟩ | ⟨j, hj, rfl, h⟩
  · rw [hf] at h; exact nomatch h
  · rw [hf] at h; exact hp j hj (Option.some.inj h)
variable {row : Int32} {t cnt n : Nat}
theorem ys_sees_A0 {j : Nat} (ht : t < 4) (hc : cc t = nI cnt) (h8 : cnt ≤ 8) (hf : ss_fc cr row (8 * t) cnt = nI j) (hj : j < 32) (hg : cg j = 0) (hp : pr 1) : wpY_sees pr (yn, yc, yr, yf, R, F, T, N, o, s, cc, cr, ci, cg, cn, yk, yl, ym, sr, si, ke) (nI t) row := by
  unfold wpY_sees; dsimp only
  refine ys_changeOf ht hc h8 ?_
  rw [hf, nI_clamp (n := j) (by omega)]
  exact br_f (nI_pos (by omega)) ⟨vp_in_nI hj (by decide), br_t hg hp⟩
theorem ys_sees_A1 {j : Nat} (ht : t < 4) (hc : cc t = nI cnt) (h8 : cnt ≤ 8) (hf : ss_fc cr row (8 * t) cnt = nI j) (hj : j < 32) (hg : ¬ cg j = 0) (hp : pr 0) : wpY_sees pr (yn, yc, yr, yf, R, F, T, N, o, s, cc, cr, ci, cg, cn, yk, yl, ym, sr, si, ke) (nI t) row := by
  unfold wpY_sees; dsimp only
  refine ys_changeOf ht hc h8 ?_
  rw [hf, nI_clamp (n := j) (by omega)]
  exact br_f (nI_pos (by omega)) ⟨vp_in_nI hj (by decide), br_f hg hp⟩
theorem ys_sees_B (ht : t < 4) (hc : cc t = nI cnt) (h8 : cnt ≤ 8) (hf : ss_fc cr row (8 * t) cnt = -1) (hn : n ≤ 56) (hx : yn = nI n) (hv : (ss_L (ss_at R F T N) 0 n).find? (ss_fp row (s t)) = none) (hp : pr 0) : wpY_sees pr (yn, yc, yr, yf, R, F, T, N, o, s, cc, cr, ci, cg, cn, yk, yl, ym, sr, si, ke) (nI t) row := by
  unfold wpY_sees; dsimp only
  refine ys_changeOf ht hc h8 ?_
  rw [hf, nI_clamp (n := t) (by omega)]
  exact br_t ss_m0 ⟨vp_in_nI ht (by decide), ys_fv_n hn hx hv (br_t ss_m0 hp)⟩
theorem ys_sees_C {v : ss_V} (ht : t < 4) (hc : cc t = nI cnt) (h8 : cnt ≤ 8) (hf : ss_fc cr row (8 * t) cnt = -1) (hn : n ≤ 56) (hx : yn = nI n) (hv : (ss_L (ss_at R F T N) 0 n).find? (ss_fp row (s t)) = some v) (hp : pr 1) : wpY_sees pr (yn, yc, yr, yf, R, F, T, N, o, s, cc, cr, ci, cg, cn, yk, yl, ym, sr, si, ke) (nI t) row := by
  unfold wpY_sees; dsimp only
  refine ys_changeOf ht hc h8 ?_
  rw [hf, nI_clamp (n := t) (by omega)]
  exact br_t ss_m0 ⟨vp_in_nI ht (by decide), ys_fv_s hn hx hv (fun j hj _ => br_f (nI_pos (by omega)) hp)⟩
variable {post : Int32 → SY → Prop}
theorem ys_changed_A {j : Nat} (ht : t < 4) (hc : cc t = nI cnt) (h8 : cnt ≤ 8) (hf : ss_fc cr row (8 * t) cnt = nI j) (hj : j < 32) (hp : post (nI j) (yn, yc, yr, yf, R, F, T, N, o, s, cc, cr, ci, cg, cn, yk, yl, ym, sr, si, ke)) : wpY_changed post (yn, yc, yr, yf, R, F, T, N, o, s, cc, cr, ci, cg, cn, yk, yl, ym, sr, si, ke) (nI t) row := by
  unfold wpY_changed; dsimp only
  refine ys_changeOf ht hc h8 ?_
  rw [hf]
  exact br_f (nI_pos (by omega)) hp
theorem ys_changed_C (ht : t < 4) (hc : cc t = nI cnt) (h8 : cnt = 8) (hf : ss_fc cr row (8 * t) cnt = -1) (hp : post (-3) (yn, yc, yr, yf, R, F, T, N, o, s, cc, cr, ci, cg, cn, yk, yl, ym, sr, si, ke)) : wpY_changed post (yn, yc, yr, yf, R, F, T, N, o, s, cc, cr, ci, cg, cn, yk, yl, ym, sr, si, ke) (nI t) row := by
  unfold wpY_changed; dsimp only
  refine ys_changeOf ht hc (by omega) ?_
  rw [hf, nI_clamp (n := t) (by omega), hc, h8]
  exact br_t ss_m0 ⟨vp_in_nI ht (by decide), br_t (by decide) hp⟩
theorem ys_changed_D {v : ss_V} (ht : t < 4) (hc : cc t = nI cnt) (h8 : cnt < 8) (hf : ss_fc cr row (8 * t) cnt = -1) (hn : n ≤ 56) (hx : yn = nI n) (hv : (ss_L (ss_at R F T N) 0 n).find? (ss_fp row (s t)) = some v) (hp : post (nI (8 * t + cnt)) (yn, yc, yr, yf, R, F, T, N, o, s, upd cc t (nI (cnt + 1)), upd cr (8 * t + cnt) row, upd ci (8 * t + cnt) 0, upd cg (8 * t + cnt) 0, ss_st cn (8 * t + cnt) v, yk, yl, ym, sr, si, ke)) : wpY_changed post (yn, yc, yr, yf, R, F, T, N, o, s, cc, cr, ci, cg, cn, yk, yl, ym, sr, si, ke) (nI t) row := by
  unfold wpY_changed; dsimp only
  refine ys_changeOf ht hc (by omega) ?_
  have hi : vp_in (nI t) 4 := vp_in_nI ht (by decide)
  have hv2 : vp_in (nI (8 * t + cnt)) 32 := vp_in_nI (by omega) (by decide)
  have hk2 : (nI (8 * t + cnt)).toNatClampNeg = 8 * t + cnt := nI_clamp (by omega)
  rw [hf, nI_clamp (n := t) (by omega), hc]
  refine br_t ss_m0 ⟨hi, br_f (fun z => ?_) ⟨hi, hi, nm_r (by rw [nI_1]) (nm_r (ss_8i t cnt) ⟨hi, ys_fv_s hn hx hv (fun j hj ej => ?_)⟩)⟩⟩
  · exact absurd ((nI_eq (b := 8) (by omega) (by decide)).mp z) (by omega)
  · rw [hk2]
    refine ⟨hv2, nm_e ⟨hv2, nm_r (e' := upd ci (8 * t + cnt) 0) rfl ⟨hv2, nm_r (e' := upd cg (8 * t + cnt) 0) rfl ?_⟩⟩⟩
    rw [ej] at hp
    exact ⟨4, br_f (by decide) ⟨by rw [ss_z30 j]; exact vp_in_nI (by omega) (by decide), by rw [ss_z30 (8 * t + cnt)]; exact vp_in_nI (by omega) (by decide), nm_r (e' := upd cn (3 * (8 * t + cnt)) (N (3 * j))) (by rw [ss_z30 (8 * t + cnt), ss_z30 j, nI_clamp (n := 3 * (8 * t + cnt)) (by omega), nI_clamp (n := 3 * j) (by omega)]) (nm_r (e' := 1) (by decide) (br_f (by decide) ⟨by rw [ss_z31 j]; exact vp_in_nI (by omega) (by decide), by rw [ss_z31 (8 * t + cnt)]; exact vp_in_nI (by omega) (by decide), nm_r (e' := upd (upd cn (3 * (8 * t + cnt)) (N (3 * j))) (3 * (8 * t + cnt) + 1) (N (3 * j + 1))) (by rw [ss_z31 (8 * t + cnt), ss_z31 j, nI_clamp (n := 3 * (8 * t + cnt) + 1) (by omega), nI_clamp (n := 3 * j + 1) (by omega)]) (nm_r (e' := 2) (by decide) (br_f (by decide) ⟨by rw [ss_z32 j]; exact vp_in_nI (by omega) (by decide), by rw [ss_z32 (8 * t + cnt)]; exact vp_in_nI (by omega) (by decide), nm_r (e' := upd (upd (upd cn (3 * (8 * t + cnt)) (N (3 * j))) (3 * (8 * t + cnt) + 1) (N (3 * j + 1))) (3 * (8 * t + cnt) + 2) (N (3 * j + 2))) (by rw [ss_z32 (8 * t + cnt), ss_z32 j, nI_clamp (n := 3 * (8 * t + cnt) + 2) (by omega), nI_clamp (n := 3 * j + 2) (by omega)]) (nm_r (e' := 3) (by decide) (br_t (by decide) hp))⟩))⟩))⟩⟩
end
theorem ss_fp_live {c : Int32} {o s : Nat → Int32} {row : Int32} {t : Nat} (ht : t < 4) (ho : ¬ o t = 0) (v : ss_V) (h : ss_fp row (s t) v = true) : ss_lv c o s v = true := by
  unfold ss_fp at h
  rw [Bool.and_eq_true] at h
  exact ss_lv_t ht ho h.2
theorem ss_fp_live' {c : Int32} {o s : Nat → Int32} {row : Int32} (v : ss_V) (h : ss_fp row c v = true) : ss_lv c o s v = true := by
  unfold ss_fp at h
  rw [Bool.and_eq_true] at h
  exact ss_lv_iff.mpr (Or.inl h.2)
/-- the shape of a question of t about a row -/
theorem ss_row4 (cr : Nat → Int32) (row : Int32) (t cnt : Nat) (h : 8 * t + cnt ≤ 32) : (∃ j, j < 32 ∧ 8 * t ≤ j ∧ j < 8 * t + cnt ∧ ss_fc cr row (8 * t) cnt = nI j) ∨ (ss_in cr row (8 * t) cnt = false ∧ ss_fc cr row (8 * t) cnt = -1) := by
  rcases ss_fc_spec (cr := cr) (row := row) cnt (8 * t) with h1 | ⟨_, j, h2, h3, _, h4⟩
  · exact Or.inr h1
  · exact Or.inl ⟨j, by omega, h2, h3, h4⟩
theorem ss_I_touch {k ck rc t cnt : Nat} {row : Int32} {o s cc cr ci : Nat → Int32} {LX LY : List ss_V} {v : ss_V} (h : ss_I k ck rc o s cc cr ci LX LY)
    (ht : t < 4) (ho : ¬ o t = 0) (hc : cc t = nI cnt) (h8 : cnt < 8) (hi : ss_in cr row (8 * t) cnt = false) (hv : LX.find? (ss_fp row (s t)) = some v) :
    ss_I (k + 6) ck rc o s (upd cc t (nI (cnt + 1))) (upd cr (8 * t + cnt) row) (upd ci (8 * t + cnt) 0) LX LY := by
  have hm := List.mem_of_find?_eq_some hv
  have hq := List.find?_some hv
  unfold ss_fp at hq
  rw [Bool.and_eq_true, decide_eq_true_iff] at hq
  refine ss_I_add h ht ho hc h8 (Nat.le_refl rc) (by have := h.2.1; omega) ?_ ?_ (fun z => absurd rfl z) (fun _ => ⟨v, hm, hq⟩)
  · rw [← hq.1]; exact (h.2.2.2.2.1.1 v hm).1
  · intro i hon e
    have hnt : ss_n cc t = cnt := by unfold ss_n; rw [hc, nI_clamp (by omega)]
    have h9 := hon.2.2
    rw [hnt] at h9
    have : ss_in cr row (8 * t) cnt = true := (ss_in_iff cnt (8 * t)).mpr ⟨8 * t + i, by omega, by omega, e⟩
    rw [hi] at this; exact nomatch this
theorem i_vc_remove {k : Nat} {u : SX} {v : SY} (I : i_Rel k u v) (hk : k + 6 ≤ 3072) (v1 : Int32) (v2 : Int32) : wpX_remove (fun r u' => wpY_remove (fun r' v' => r' = r ∧ i_Rel (k + 6) u' v') v v1 v2) u v1 v2 := by
  obtain ⟨ck, rc, nx, ny, xf, yf, R, F, T, N, VR, VF, VT, VN, o, s, cc, cr, ci, cg, cn, ws, wk, wl, wm, fr, fi, yk, yl, ym, sr, si, ke, rfl, rfl, h1, h2, h3, h4⟩ := I
  unfold wpX_remove wpY_remove; dsimp only
  by_cases ho : ss_op o v1
  · refine xs_isOpen_t ho (br_f ss_10 ?_)
    have ho' := ho
    obtain ⟨t, ht, rfl, hot⟩ := ho'
    obtain ⟨hcc, h8, _⟩ := h3.2.2.2.2.2.2.1 t ht hot
    have hs : ∃ cnt, cnt = ss_n cc t := ⟨_, rfl⟩
    obtain ⟨cnt, hs⟩ := hs
    rw [← hs] at hcc h8
    have hR := ss_mk (xf := xf) (yf := yf) (cg := cg) (cn := cn) (fr := fr) (fi := fi) (sr := sr) (si := si) (ke := ke) h1 h2 (ss_I_up h3) h4
    have hfe : (ss_L (ss_at R F T N) 0 nx).find? (ss_fp v2 (s t)) = (ss_L (ss_at VR VF VT VN) 0 ny).find? (ss_fp v2 (s t)) := ss_fnd (ss_flt' h3.2.2.1 (ss_fp_live ht hot))
    rcases ss_row4 cr v2 t cnt (by omega) with ⟨j, hj, _, _, hf⟩ | ⟨hin, hf⟩
    · by_cases hg : cg j = 0
      · refine xs_slot_A0 ht hcc h8 hf hj hg (br_t (nI_pos' (by omega)) ⟨vp_in_nI hj (by decide), nm_r (e' := upd cg j 1) (by rw [nI_clamp (by omega)]; rfl) ?_⟩)
        refine ys_isOpen_t ho (br_f ss_10 (ys_sees_A0 ht hcc h8 hf hj hg (br_f ss_10 (ys_changed_A ht hcc h8 hf hj (br_t (nI_pos' (by omega)) ⟨vp_in_nI hj (by decide), nm_r (e' := upd cg j 1) (by rw [nI_clamp (by omega)]; rfl) ⟨rfl, ?_⟩⟩)))))
        exact ss_mk h1 h2 (ss_I_up h3) h4
      · exact xs_slot_A1 ht hcc h8 hf hj hg (br_f (by decide) (ys_isOpen_t ho (br_f ss_10 (ys_sees_A1 ht hcc h8 hf hj hg (br_t rfl ⟨rfl, hR⟩)))))
    · cases hv : (ss_L (ss_at R F T N) 0 nx).find? (ss_fp v2 (s t)) with
      | none => exact xs_slot_B ht hcc h8 hf h1 rfl hv (br_f (by decide) (ys_isOpen_t ho (br_f ss_10 (ys_sees_B ht hcc h8 hf (by omega) rfl (hfe ▸ hv) (br_t rfl ⟨rfl, hR⟩)))))
      | some v =>
        have hv' : (ss_L (ss_at VR VF VT VN) 0 ny).find? (ss_fp v2 (s t)) = some v := hfe ▸ hv
        by_cases h9 : cnt < 8
        · have hj : 8 * t + cnt < 32 := by omega
          refine xs_slot_D ht hcc h9 hf h1 rfl hv (br_t (nI_pos' (by omega)) ⟨vp_in_nI hj (by decide), nm_r (e' := upd cg (8 * t + cnt) 1) (by rw [nI_clamp (by omega)]; exact ss_uu) ?_⟩)
          refine ys_isOpen_t ho (br_f ss_10 (ys_sees_C ht hcc h8 hf (by omega) rfl hv' (br_f ss_10 (ys_changed_D ht hcc h9 hf (by omega) rfl hv' (br_t (nI_pos' (by omega)) ⟨vp_in_nI hj (by decide), nm_r (e' := upd cg (8 * t + cnt) 1) (by rw [nI_clamp (by omega)]; exact ss_uu) ⟨rfl, ?_⟩⟩)))))
          exact ss_mk h1 h2 (ss_I_touch h3 ht hot hcc h9 hin hv) h4
        · exact xs_slot_C ht hcc (by omega) hf h1 rfl hv (br_f (by decide) (ys_isOpen_t ho (br_f ss_10 (ys_sees_C ht hcc h8 hf (by omega) rfl hv' (br_f ss_10 (ys_changed_C ht hcc (by omega) hf (br_f (by decide) ⟨rfl, hR⟩)))))))
  · exact xs_isOpen_f ho (br_t rfl (ys_isOpen_f ho (br_t rfl ⟨rfl, ss_mk h1 h2 (ss_I_up h3) h4⟩)))
theorem i_vc_update {k : Nat} {u : SX} {v : SY} (I : i_Rel k u v) (hk : k + 6 ≤ 3072) (v1 : Int32) (v2 : Int32) (v3 : Int32) (v4 : Int32) : wpX_update (fun r u' => wpY_update (fun r' v' => r' = r ∧ i_Rel (k + 6) u' v') v v1 v2 v3 v4) u v1 v2 v3 v4 := by
  obtain ⟨ck, rc, nx, ny, xf, yf, R, F, T, N, VR, VF, VT, VN, o, s, cc, cr, ci, cg, cn, ws, wk, wl, wm, fr, fi, yk, yl, ym, sr, si, ke, rfl, rfl, h1, h2, h3, h4⟩ := I
  unfold wpX_update wpY_update; dsimp only
  by_cases ho : ss_op o v1
  · refine xs_isOpen_t ho (br_f ss_10 ?_)
    have ho' := ho
    obtain ⟨t, ht, rfl, hot⟩ := ho'
    obtain ⟨hcc, h8, _⟩ := h3.2.2.2.2.2.2.1 t ht hot
    have hs : ∃ cnt, cnt = ss_n cc t := ⟨_, rfl⟩
    obtain ⟨cnt, hs⟩ := hs
    rw [← hs] at hcc h8
    have hR := ss_mk (xf := xf) (yf := yf) (cg := cg) (cn := cn) (fr := fr) (fi := fi) (sr := sr) (si := si) (ke := ke) h1 h2 (ss_I_up h3) h4
    have hfe : (ss_L (ss_at R F T N) 0 nx).find? (ss_fp v2 (s t)) = (ss_L (ss_at VR VF VT VN) 0 ny).find? (ss_fp v2 (s t)) := ss_fnd (ss_flt' h3.2.2.1 (ss_fp_live ht hot))
    by_cases hcol : ss_am v3 3
    · refine xs_isColumn_t hcol (br_f ss_10 ?_)
      have hcol' := hcol
      obtain ⟨c, hc3, rfl⟩ := hcol'
      rcases ss_row4 cr v2 t cnt (by omega) with ⟨j, hj, _, _, hf⟩ | ⟨hin, hf⟩
      · by_cases hg : cg j = 0
        · refine xs_slot_A0 ht hcc h8 hf hj hg (br_t (nI_pos' (by omega)) ⟨by rw [ss_i3]; exact vp_in_nI (by omega) (by decide), nm_r (e' := upd cn (3 * j + c) v4) (by rw [ss_i3, nI_clamp (by omega)]) ?_⟩)
          refine ys_isOpen_t ho (br_f ss_10 (ys_sees_A0 ht hcc h8 hf hj hg (br_f ss_10 (ys_among_t (n := 3) rfl (by decide) hcol (br_f ss_10 (ys_changed_A ht hcc h8 hf hj (br_t (nI_pos' (by omega)) ⟨by rw [ss_3i]; exact vp_in_nI (by omega) (by decide), nm_r (e' := upd cn (3 * j + c) v4) (by rw [ss_3i, nI_clamp (by omega)]) ⟨rfl, ?_⟩⟩)))))))
          exact ss_mk h1 h2 (ss_I_up h3) h4
        · exact xs_slot_A1 ht hcc h8 hf hj hg (br_f (by decide) (ys_isOpen_t ho (br_f ss_10 (ys_sees_A1 ht hcc h8 hf hj hg (br_t rfl ⟨rfl, hR⟩)))))
      · cases hv : (ss_L (ss_at R F T N) 0 nx).find? (ss_fp v2 (s t)) with
        | none => exact xs_slot_B ht hcc h8 hf h1 rfl hv (br_f (by decide) (ys_isOpen_t ho (br_f ss_10 (ys_sees_B ht hcc h8 hf (by omega) rfl (hfe ▸ hv) (br_t rfl ⟨rfl, hR⟩)))))
        | some v =>
          have hv' : (ss_L (ss_at VR VF VT VN) 0 ny).find? (ss_fp v2 (s t)) = some v := hfe ▸ hv
          by_cases h9 : cnt < 8
          · have hj : 8 * t + cnt < 32 := by omega
            refine xs_slot_D ht hcc h9 hf h1 rfl hv (br_t (nI_pos' (by omega)) ⟨by rw [ss_i3]; exact vp_in_nI (by omega) (by decide), nm_r (e' := upd (ss_st cn (8 * t + cnt) v) (3 * (8 * t + cnt) + c) v4) (by rw [ss_i3, nI_clamp (by omega)]) ?_⟩)
            refine ys_isOpen_t ho (br_f ss_10 (ys_sees_C ht hcc h8 hf (by omega) rfl hv' (br_f ss_10 (ys_among_t (n := 3) rfl (by decide) hcol (br_f ss_10 (ys_changed_D ht hcc h9 hf (by omega) rfl hv' (br_t (nI_pos' (by omega)) ⟨by rw [ss_3i]; exact vp_in_nI (by omega) (by decide), nm_r (e' := upd (ss_st cn (8 * t + cnt) v) (3 * (8 * t + cnt) + c) v4) (by rw [ss_3i, nI_clamp (by omega)]) ⟨rfl, ?_⟩⟩)))))))
            exact ss_mk h1 h2 (ss_I_touch h3 ht hot hcc h9 hin hv) h4
          · exact xs_slot_C ht hcc (by omega) hf h1 rfl hv (br_f (by decide) (ys_isOpen_t ho (br_f ss_10 (ys_sees_C ht hcc h8 hf (by omega) rfl hv' (br_f ss_10 (ys_among_t (n := 3) rfl (by decide) hcol (br_f ss_10 (ys_changed_C ht hcc (by omega) hf (br_f (by decide) ⟨rfl, hR⟩)))))))))
    · refine xs_isColumn_f hcol (br_t rfl (ys_isOpen_t ho (br_f ss_10 ?_)))
      have hE : ∀ r, r = 0 ∨ r = 1 → r = r := fun r _ => rfl
      rcases ss_row4 cr v2 t cnt (by omega) with ⟨j, hj, _, _, hf⟩ | ⟨hin, hf⟩
      · by_cases hg : cg j = 0
        · exact ys_sees_A0 ht hcc h8 hf hj hg (br_f ss_10 (ys_among_f (n := 3) rfl (by decide) hcol (br_t rfl ⟨rfl, hR⟩)))
        · exact ys_sees_A1 ht hcc h8 hf hj hg (br_t rfl ⟨rfl, hR⟩)
      · cases hv : (ss_L (ss_at VR VF VT VN) 0 ny).find? (ss_fp v2 (s t)) with
        | none => exact ys_sees_B ht hcc h8 hf (by omega) rfl hv (br_t rfl ⟨rfl, hR⟩)
        | some v => exact ys_sees_C ht hcc h8 hf (by omega) rfl hv (br_f ss_10 (ys_among_f (n := 3) rfl (by decide) hcol (br_t rfl ⟨rfl, hR⟩)))
  · exact xs_isOpen_f ho (br_t rfl (ys_isOpen_f ho (br_t rfl ⟨rfl, ss_mk h1 h2 (ss_I_up h3) h4⟩)))
end
section
theorem ss_hd_live {c : Int32} {o s : Nat → Int32} (v : ss_V) (h : ss_hd v c = true) : ss_lv c o s v = true := ss_lv_iff.mpr (Or.inl h)
theorem i_vc_state {k : Nat} {u : SX} {v : SY} (I : i_Rel k u v) (hk : k + 6 ≤ 3072) (v1 : Int32) : wpX_state (fun r => wpY_state (fun r' => r' = r ∧ i_Rel (k + 6) u v) v v1) u v1 := by
  have hR := i_up I
  obtain ⟨ck, rc, nx, ny, xf, yf, R, F, T, N, VR, VF, VT, VN, o, s, cc, cr, ci, cg, cn, ws, wk, wl, wm, fr, fi, yk, yl, ym, sr, si, ke, rfl, rfl, h1, h2, h3, h4⟩ := I
  by_cases e0 : v1 = 0
  · subst e0
    exact br_f (by decide) (br_f (by decide) (br_t rfl (br_t rfl ⟨rfl, hR⟩)))
  by_cases e1 : v1 = 1
  · subst e1
    exact br_f (by decide) (br_f (by decide) (br_f e0 (br_t rfl (br_f e0 (br_t rfl ⟨rfl, hR⟩)))))
  by_cases e2 : v1 = 2
  · subst e2
    refine br_f (by decide) (br_f (by decide) (br_f e0 (br_f e1 (br_t rfl (xs_countLive h1 rfl ?_)))))
    refine br_f e0 (br_f e1 (br_t rfl (ys_alive (by omega) rfl ⟨?_, hR⟩)))
    rw [ss_cnt h3.2.2.1]
  by_cases e3 : v1 = 3
  · subst e3
    refine br_f (by decide) (br_f (by decide) (br_f e0 (br_f e1 (br_f e2 (br_t rfl (xs_countOpen ?_))))))
    refine br_f e0 (br_f e1 (br_f e2 (br_t rfl ⟨5, ys_open_loop 4 0 0 rfl (br_f (by decide) (br_t rfl ⟨?_, hR⟩))⟩)))
    rw [Nat.zero_add]
  by_cases e4 : v1 = 4
  · subst e4
    refine br_f (by decide) (br_f (by decide) (br_f e0 (br_f e1 (br_f e2 (br_f e3 (br_t rfl (xs_countThere h1 rfl ?_)))))))
    refine br_f e0 (br_f e1 (br_f e2 (br_f e3 (br_t rfl ⟨ny + 1, ys_there_loop (by omega) rfl ny 0 0 (by omega) (br_f e3 (br_t rfl ⟨?_, hR⟩))⟩))))
    rw [Nat.zero_add, ss_cnt (ss_flt' h3.2.2.1 ss_hd_live)]
  · have hY : ∀ r : Int32, r = -1 → wpY_state (fun r' => r' = r ∧ i_Rel (k + 6) (nI ck, nI rc, nI nx, xf, R, F, T, N, o, s, cc, cr, ci, cg, cn, ws, wk, wl, wm, fr, fi) (nI ny, nI ck, nI rc, yf, VR, VF, VT, VN, o, s, cc, cr, ci, cg, cn, yk, yl, ym, sr, si, ke)) (nI ny, nI ck, nI rc, yf, VR, VF, VT, VN, o, s, cc, cr, ci, cg, cn, yk, yl, ym, sr, si, ke) v1 :=
      fun r hr => br_f e0 (br_f e1 (br_f e2 (br_f e3 (br_f e4 (br_f e3 (br_f e4 ⟨hr.symm, hR⟩))))))
    exact br_c (fun _ => hY _ rfl) (fun _ => br_c (fun _ => hY _ rfl) (fun _ => br_f e0 (br_f e1 (br_f e2 (br_f e3 (br_f e4 trivial))))))
theorem i_vc_cell {k : Nat} {u : SX} {v : SY} (I : i_Rel k u v) (hk : k + 6 ≤ 3072) (v1 : Int32) (v2 : Int32) (v3 : Int32) : wpX_cell (fun r => wpY_cell (fun r' => r' = r ∧ i_Rel (k + 6) u v) v v1 v2 v3) u v1 v2 v3 := by
  have hR := i_up I
  obtain ⟨ck, rc, nx, ny, xf, yf, R, F, T, N, VR, VF, VT, VN, o, s, cc, cr, ci, cg, cn, ws, wk, wl, wm, fr, fi, yk, yl, ym, sr, si, ke, rfl, rfl, h1, h2, h3, h4⟩ := I
  unfold wpX_cell wpY_cell; dsimp only
  by_cases ha : v1 = -1 ∨ ss_op o v1
  · refine xs_canAsk_t ha (br_f ss_10 ?_)
    by_cases hcol : ss_am v3 3
    · refine xs_isColumn_t hcol (br_f ss_10 ?_)
      have hcol' := hcol
      obtain ⟨c, hc3, rfl⟩ := hcol'
      rcases ha with rfl | ho
      · have hw : ss_who (nI ck) s cc (-1) 0 0 (nI ck) := Or.inl ⟨rfl, rfl, rfl, rfl⟩
        refine xs_findChangeW hw ?_
        refine br_t ss_m0 (xs_timeSeen hw ?_)
        have hY : ∀ P : Int64 → Prop, wY_cell_95 P (nI c) (nI ck) v2 (nI ny) (nI ck) (nI rc) yf VR VF VT VN o s cc cr ci cg cn yk yl ym sr si ke → ((-1 : Int32) = -1 → wY_cell_13 P (-1) v2 (nI c) (nI ny) (nI ck) (nI rc) yf VR VF VT VN o s cc cr ci cg cn yk yl ym sr si ke) := by
          intro P hP _
          unfold wY_cell_13
          refine ys_among_t (n := 3) rfl (by decide) hcol (br_f ss_10 (br_f (by decide) ?_))
          unfold wY_cell_40
          exact br_t ss_m0 (br_f (by decide) hP)
        cases hv : (ss_L (ss_at R F T N) 0 nx).find? (ss_fp v2 (nI ck)) with
        | none =>
          refine xs_fv_n h1 rfl hv (br_f (by decide) (br_t rfl (hY _ ?_ rfl)))
          have hfe : (ss_L (ss_at R F T N) 0 nx).find? (ss_fp v2 (nI ck)) = (ss_L (ss_at VR VF VT VN) 0 ny).find? (ss_fp v2 (nI ck)) := ss_fnd (ss_flt' h3.2.2.1 ss_fp_live')
          unfold wY_cell_95
          exact ys_fv_n (by omega) rfl (hfe ▸ hv) (br_f (by decide) ⟨rfl, hR⟩)
        | some v =>
          have hfe : (ss_L (ss_at R F T N) 0 nx).find? (ss_fp v2 (nI ck)) = (ss_L (ss_at VR VF VT VN) 0 ny).find? (ss_fp v2 (nI ck)) := ss_fnd (ss_flt' h3.2.2.1 ss_fp_live')
          refine xs_fv_s h1 rfl hv (fun j hj ej => ?_)
          rw [ss_i3, nI_clamp (n := 3 * j + c) (by omega)]
          refine br_t (nI_pos' (by omega)) ⟨vp_in_nI (by omega) (by decide), br_t rfl (hY _ ?_ rfl)⟩
          unfold wY_cell_95
          refine ys_fv_s (by omega) rfl (hfe ▸ hv) (fun i hi ei => ?_)
          rw [ss_3i, nI_clamp (n := 3 * i + c) (by omega)]
          refine br_t (nI_pos' (by omega)) ⟨vp_in_nI (by omega) (by decide), ?_, hR⟩
          have e : ss_fa VR VN i = ss_fa R N j := by
            have e1 : ss_pr (ss_at VR VF VT VN i) = ss_pr (ss_at R F T N j) := by rw [← ei, ← ej]
            exact e1
          rw [← ss_gt_fa (fr := VR) (fi := VN) hc3, e, ss_gt_fa hc3]
      · have ho' := ho
        obtain ⟨t, ht, rfl, hot⟩ := ho'
        obtain ⟨hcc, h8, _⟩ := h3.2.2.2.2.2.2.1 t ht hot
        have hs : ∃ cnt, cnt = ss_n cc t := ⟨_, rfl⟩
        obtain ⟨cnt, hs⟩ := hs
        rw [← hs] at hcc h8
        have hw : ss_who (nI ck) s cc (nI t) t cnt (s t) := Or.inr ⟨rfl, ht, hcc, h8, rfl⟩
        have hfe : (ss_L (ss_at R F T N) 0 nx).find? (ss_fp v2 (s t)) = (ss_L (ss_at VR VF VT VN) 0 ny).find? (ss_fp v2 (s t)) := ss_fnd (ss_flt' h3.2.2.1 (ss_fp_live ht hot))
        have hY : ∀ P : Int64 → Prop, wY_cell_40 P (nI t) v2 (nI c) (ss_fc cr v2 (8 * t) cnt) (nI ny) (nI ck) (nI rc) yf VR VF VT VN o s cc cr ci cg cn yk yl ym sr si ke → wpY_cell P (nI ny, nI ck, nI rc, yf, VR, VF, VT, VN, o, s, cc, cr, ci, cg, cn, yk, yl, ym, sr, si, ke) (nI t) v2 (nI c) := by
          intro P hP
          refine br_f (ss_nm t (by omega)) (ys_isOpen_t ho (br_f ss_10 ?_))
          unfold wY_cell_13
          exact ys_among_t (n := 3) rfl (by decide) hcol (br_f ss_10 (br_t (nI_pos' (by omega)) (ys_changeOf ht hcc h8 hP)))
        refine xs_findChangeW hw ?_
        rcases ss_row4 cr v2 t cnt (by omega) with ⟨j, hj, _, _, hf⟩ | ⟨hin, hf⟩
        · rw [hf] at hY
          rw [hf, nI_clamp (n := j) (by omega), ss_i3, nI_clamp (n := 3 * j + c) (by omega)]
          refine br_f (nI_pos (by omega)) ⟨vp_in_nI hj (by decide), br_c (fun hg => ⟨vp_in_nI (by omega) (by decide), hY _ ?_⟩) (fun hg => hY _ ?_)⟩
          · unfold wY_cell_40
            rw [nI_clamp (n := j) (by omega), ss_3i, nI_clamp (n := 3 * j + c) (by omega)]
            exact br_f (nI_pos (by omega)) ⟨vp_in_nI hj (by decide), br_t hg ⟨vp_in_nI (by omega) (by decide), rfl, hR⟩⟩
          · unfold wY_cell_40
            rw [nI_clamp (n := j) (by omega)]
            exact br_f (nI_pos (by omega)) ⟨vp_in_nI hj (by decide), br_f hg ⟨rfl, hR⟩⟩
        · rw [hf] at hY
          rw [hf]
          refine br_t ss_m0 (xs_timeSeen hw ?_)
          have hY2 : ∀ P : Int64 → Prop, wY_cell_95 P (nI c) (s t) v2 (nI ny) (nI ck) (nI rc) yf VR VF VT VN o s cc cr ci cg cn yk yl ym sr si ke → wpY_cell P (nI ny, nI ck, nI rc, yf, VR, VF, VT, VN, o, s, cc, cr, ci, cg, cn, yk, yl, ym, sr, si, ke) (nI t) v2 (nI c) := by
            intro P hP
            refine hY P ?_
            unfold wY_cell_40
            rw [nI_clamp (n := t) (by omega)]
            exact br_t ss_m0 (br_t (nI_pos' (by omega)) ⟨vp_in_nI ht (by decide), hP⟩)
          cases hv : (ss_L (ss_at R F T N) 0 nx).find? (ss_fp v2 (s t)) with
          | none =>
            refine xs_fv_n h1 rfl hv (br_f (by decide) (hY2 _ ?_))
            unfold wY_cell_95
            exact ys_fv_n (by omega) rfl (hfe ▸ hv) (br_f (by decide) ⟨rfl, hR⟩)
          | some v =>
            refine xs_fv_s h1 rfl hv (fun j hj ej => ?_)
            rw [ss_i3, nI_clamp (n := 3 * j + c) (by omega)]
            refine br_t (nI_pos' (by omega)) ⟨vp_in_nI (by omega) (by decide), hY2 _ ?_⟩
            unfold wY_cell_95
            refine ys_fv_s (by omega) rfl (hfe ▸ hv) (fun i hi ei => ?_)
            rw [ss_3i, nI_clamp (n := 3 * i + c) (by omega)]
            refine br_t (nI_pos' (by omega)) ⟨vp_in_nI (by omega) (by decide), ?_, hR⟩
            have e : ss_fa VR VN i = ss_fa R N j := by
              have e1 : ss_pr (ss_at VR VF VT VN i) = ss_pr (ss_at R F T N j) := by rw [← ei, ← ej]
              exact e1
            rw [← ss_gt_fa (fr := VR) (fi := VN) hc3, e, ss_gt_fa hc3]
    · refine xs_isColumn_f hcol (br_t rfl ?_)
      have hY : ∀ P : Int64 → Prop, P 10000000000 → wY_cell_13 P v1 v2 v3 (nI ny) (nI ck) (nI rc) yf VR VF VT VN o s cc cr ci cg cn yk yl ym sr si ke := by
        intro P hP
        unfold wY_cell_13
        exact ys_among_f (n := 3) rfl (by decide) hcol (br_t rfl hP)
      refine br_c (fun _ => hY _ ⟨rfl, hR⟩) (fun hne => ?_)
      rcases ha with h | ho
      · exact absurd h hne
      · exact ys_isOpen_t ho (br_f ss_10 (hY _ ⟨rfl, hR⟩))
  · exact xs_canAsk_f ha (br_t rfl (br_f (fun z => ha (Or.inl z)) (ys_isOpen_f (fun z => ha (Or.inr z)) (br_t rfl ⟨rfl, hR⟩))))
end
section
theorem ss_cpy {N : Nat → Int32} {i k : Nat} {N' : Nat → Int32} (h : N' = upd (upd (upd N (3 * k) (N (3 * i))) (3 * k + 1) (upd N (3 * k) (N (3 * i)) (3 * i + 1))) (3 * k + 2) (upd (upd N (3 * k) (N (3 * i))) (3 * k + 1) (upd N (3 * k) (N (3 * i)) (3 * i + 1)) (3 * i + 2))) :
    N' (3 * k) = N (3 * i) ∧ N' (3 * k + 1) = N (3 * i + 1) ∧ N' (3 * k + 2) = N (3 * i + 2) ∧ (∀ j, j ≠ k → N' (3 * j) = N (3 * j) ∧ N' (3 * j + 1) = N (3 * j + 1) ∧ N' (3 * j + 2) = N (3 * j + 2)) := by
  subst h
  refine ⟨?_, ?_, ?_, fun j hj => ⟨?_, ?_, ?_⟩⟩
  · rw [ss_un (by omega), ss_un (by omega), ss_us]
  · rw [ss_un (by omega), ss_us, ss_un (by omega)]
  · rw [ss_us, ss_un (by omega), ss_un (by omega)]
  · rw [ss_un (by omega), ss_un (by omega), ss_un (by omega)]
  · rw [ss_un (by omega), ss_un (by omega), ss_un (by omega)]
  · rw [ss_un (by omega), ss_un (by omega), ss_un (by omega)]
theorem ss_at_ext {R F T N R' F' T' N' : Nat → Int32} {i j : Nat} (h1 : R' j = R i) (h2 : F' j = F i) (h3 : T' j = T i) (h4 : N' (3 * j) = N (3 * i) ∧ N' (3 * j + 1) = N (3 * i + 1) ∧ N' (3 * j + 2) = N (3 * i + 2)) : ss_at R' F' T' N' j = ss_at R F T N i := by
  unfold ss_at
  rw [h1, h2, h3, h4.1, h4.2.1, h4.2.2]
section
variable {xc xr xn xf : Int32} {R F T N o s cc cr ci cg cn ws wk wl wm fr fi : Nat → Int32}
variable {post : SX → Prop}
theorem xs_moveVersion {i k : Nat} (hi : i < 40) (hk : k < 40) (hp : ∀ R' F' T' N' : Nat → Int32, ss_at R' F' T' N' k = ss_at R F T N i → (∀ j, j ≠ k → ss_at R' F' T' N' j = ss_at R F T N j) → post (xc, xr, xn, xf, R', F', T', N', o, s, cc, cr, ci, cg, cn, ws, wk, wl, wm, fr, fi)) : wpX_moveVersion post (xc, xr, xn, xf, R, F, T, N, o, s, cc, cr, ci, cg, cn, ws, wk, wl, wm, fr, fi) (nI i) (nI k) := by
  have hvi : vp_in (nI i) 40 := vp_in_nI hi (by decide)
  have hvk : vp_in (nI k) 40 := vp_in_nI hk (by decide)
  have hci : (nI i).toNatClampNeg = i := nI_clamp (by omega)
  have hck : (nI k).toNatClampNeg = k := nI_clamp (by omega)
  refine ⟨hvi, hvk, nm_r (e' := upd R k (R i)) (by rw [hci, hck]) ⟨hvi, hvk, nm_r (e' := upd F k (F i)) (by rw [hci, hck]) ⟨hvi, hvk, nm_r (e' := upd T k (T i)) (by rw [hci, hck]) ?_⟩⟩⟩
  have hN := ss_cpy (N := N) (i := i) (k := k) rfl
  have hq := hp (upd R k (R i)) (upd F k (F i)) (upd T k (T i)) _ (ss_at_ext ss_us ss_us ss_us ⟨hN.1, hN.2.1, hN.2.2.1⟩) (fun j hj => ss_at_ext (ss_un hj) (ss_un hj) (ss_un hj) (hN.2.2.2 j hj))
  exact ⟨4, br_f (by decide) ⟨by rw [ss_k30 i]; exact vp_in_nI (by omega) (by decide), by rw [ss_k30 k]; exact vp_in_nI (by omega) (by decide), nm_r (e' := upd N (3 * k) (N (3 * i))) (by rw [ss_k30 k, ss_k30 i, nI_clamp (n := 3 * k) (by omega), nI_clamp (n := 3 * i) (by omega)]) (nm_r (e' := 1) (by decide) (br_f (by decide) ⟨by rw [ss_k31 i]; exact vp_in_nI (by omega) (by decide), by rw [ss_k31 k]; exact vp_in_nI (by omega) (by decide), nm_r (e' := upd (upd N (3 * k) (N (3 * i))) (3 * k + 1) ((upd N (3 * k) (N (3 * i))) (3 * i + 1))) (by rw [ss_k31 k, ss_k31 i, nI_clamp (n := 3 * k + 1) (by omega), nI_clamp (n := 3 * i + 1) (by omega)]) (nm_r (e' := 2) (by decide) (br_f (by decide) ⟨by rw [ss_k32 i]; exact vp_in_nI (by omega) (by decide), by rw [ss_k32 k]; exact vp_in_nI (by omega) (by decide), nm_r (e' := upd (upd (upd N (3 * k) (N (3 * i))) (3 * k + 1) ((upd N (3 * k) (N (3 * i))) (3 * i + 1))) (3 * k + 2) ((upd (upd N (3 * k) (N (3 * i))) (3 * k + 1) ((upd N (3 * k) (N (3 * i))) (3 * i + 1))) (3 * i + 2))) (by rw [ss_k32 k, ss_k32 i, nI_clamp (n := 3 * k + 2) (by omega), nI_clamp (n := 3 * i + 2) (by omega)]) (nm_r (e' := 3) (by decide) (br_t (by decide) hq))⟩))⟩))⟩⟩
theorem xs_drop_loop {n : Nat} (hn : n ≤ 40) : ∀ (d i k : Nat) (R F T N : Nat → Int32), k ≤ i → i + d = n → (∀ (m : Nat) (R' F' T' N' : Nat → Int32), m ≤ n → ss_L (ss_at R' F' T' N') 0 m = ss_L (ss_at R F T N) 0 k ++ (ss_L (ss_at R F T N) i d).filter (ss_lv xc o s) → post (xc, xr, nI m, xf, R', F', T', N', o, s, cc, cr, ci, cg, cn, ws, wk, wl, wm, fr, fi)) → wX_dropDeadVersions_4 post (d + 1) (nI k) (nI i) xc xr (nI n) xf R F T N o s cc cr ci cg cn ws wk wl wm fr fi := by
  intro d
  induction d with
  | zero =>
    intro i k R F T N hki hi hp
    exact br_t (nI_le (by omega) (by omega)) (hp k R F T N (by omega) (by rw [ss_L, List.filter_nil, List.append_nil]))
  | succ d ih =>
    intro i k R F T N hki hi hp
    refine br_f (nI_ge (by omega) (by omega)) (xs_isLive (by omega) ?_)
    cases hb : ss_lv xc o s (ss_at R F T N i) with
    | false =>
      refine br_t rfl (nm_r (nI_1 i) (ih (i + 1) k R F T N (by omega) (by omega) (fun m R' F' T' N' hm he => hp m R' F' T' N' hm ?_)))
      rw [he, ss_L, List.filter_cons_of_neg (by rw [hb]; decide)]
    | true =>
      refine br_f ss_10 (xs_moveVersion (by omega) (by omega) (fun R1 F1 T1 N1 h1 h2 => ?_))
      refine nm_r (nI_1 k) (nm_r (nI_1 i) (ih (i + 1) (k + 1) R1 F1 T1 N1 (by omega) (by omega) (fun m R' F' T' N' hm he => hp m R' F' T' N' hm ?_)))
      rw [he, ss_Lsnoc, Nat.zero_add, h1, List.append_assoc, List.singleton_append, ss_L, List.filter_cons_of_pos hb]
      rw [ss_Lcon (V := ss_at R1 F1 T1 N1) (W := ss_at R F T N) k 0 (fun j _ hj => h2 j (by omega))]
      rw [ss_Lcon (V := ss_at R1 F1 T1 N1) (W := ss_at R F T N) d (i + 1) (fun j hj _ => h2 j (by omega))]
theorem xs_dropDead {n : Nat} (hn : n ≤ 40) (hp : ∀ (m : Nat) (R' F' T' N' : Nat → Int32), m ≤ n → ss_L (ss_at R' F' T' N') 0 m = (ss_L (ss_at R F T N) 0 n).filter (ss_lv xc o s) → post (xc, xr, nI m, xf, R', F', T', N', o, s, cc, cr, ci, cg, cn, ws, wk, wl, wm, fr, fi)) : wpX_dropDeadVersions post (xc, xr, nI n, xf, R, F, T, N, o, s, cc, cr, ci, cg, cn, ws, wk, wl, wm, fr, fi) :=
  ⟨n + 1, xs_drop_loop hn n 0 0 R F T N (by omega) (by omega) (fun m R' F' T' N' hm he => hp m R' F' T' N' hm he)⟩
end
section
variable {yn yc yr yf : Int32} {R F T N o s cc cr ci cg cn yk yl ym sr si ke : Nat → Int32}
variable {post : SY → Prop}
theorem ys_copy {i k : Nat} (hi : i < 56) (hk : k < 56) (hp : ∀ R' F' T' N' : Nat → Int32, ss_at R' F' T' N' k = ss_at R F T N i → (∀ j, j ≠ k → ss_at R' F' T' N' j = ss_at R F T N j) → post (yn, yc, yr, yf, R', F', T', N', o, s, cc, cr, ci, cg, cn, yk, yl, ym, sr, si, ke)) : wpY_copy post (yn, yc, yr, yf, R, F, T, N, o, s, cc, cr, ci, cg, cn, yk, yl, ym, sr, si, ke) (nI i) (nI k) := by
  have hvi : vp_in (nI i) 56 := vp_in_nI hi (by decide)
  have hvk : vp_in (nI k) 56 := vp_in_nI hk (by decide)
  have hci : (nI i).toNatClampNeg = i := nI_clamp (by omega)
  have hck : (nI k).toNatClampNeg = k := nI_clamp (by omega)
  refine ⟨hvi, hvk, nm_r (e' := upd R k (R i)) (by rw [hci, hck]) ⟨hvi, hvk, nm_r (e' := upd F k (F i)) (by rw [hci, hck]) ⟨hvi, hvk, nm_r (e' := upd T k (T i)) (by rw [hci, hck]) ?_⟩⟩⟩
  have hN := ss_cpy (N := N) (i := i) (k := k) rfl
  have hq := hp (upd R k (R i)) (upd F k (F i)) (upd T k (T i)) _ (ss_at_ext ss_us ss_us ss_us ⟨hN.1, hN.2.1, hN.2.2.1⟩) (fun j hj => ss_at_ext (ss_un hj) (ss_un hj) (ss_un hj) (hN.2.2.2 j hj))
  exact ⟨4, br_f (by decide) ⟨by rw [ss_z30 i]; exact vp_in_nI (by omega) (by decide), by rw [ss_z30 k]; exact vp_in_nI (by omega) (by decide), nm_r (e' := upd N (3 * k) (N (3 * i))) (by rw [ss_z30 k, ss_z30 i, nI_clamp (n := 3 * k) (by omega), nI_clamp (n := 3 * i) (by omega)]) (nm_r (e' := 1) (by decide) (br_f (by decide) ⟨by rw [ss_z31 i]; exact vp_in_nI (by omega) (by decide), by rw [ss_z31 k]; exact vp_in_nI (by omega) (by decide), nm_r (e' := upd (upd N (3 * k) (N (3 * i))) (3 * k + 1) ((upd N (3 * k) (N (3 * i))) (3 * i + 1))) (by rw [ss_z31 k, ss_z31 i, nI_clamp (n := 3 * k + 1) (by omega), nI_clamp (n := 3 * i + 1) (by omega)]) (nm_r (e' := 2) (by decide) (br_f (by decide) ⟨by rw [ss_z32 i]; exact vp_in_nI (by omega) (by decide), by rw [ss_z32 k]; exact vp_in_nI (by omega) (by decide), nm_r (e' := upd (upd (upd N (3 * k) (N (3 * i))) (3 * k + 1) ((upd N (3 * k) (N (3 * i))) (3 * i + 1))) (3 * k + 2) ((upd (upd N (3 * k) (N (3 * i))) (3 * k + 1) ((upd N (3 * k) (N (3 * i))) (3 * i + 1))) (3 * i + 2))) (by rw [ss_z32 k, ss_z32 i, nI_clamp (n := 3 * k + 2) (by omega), nI_clamp (n := 3 * i + 2) (by omega)]) (nm_r (e' := 3) (by decide) (br_t (by decide) hq))⟩))⟩))⟩⟩
theorem ys_forget_loop {n : Nat} (hn : n ≤ 56) : ∀ (d i k : Nat) (R F T N : Nat → Int32), k ≤ i → i + d = n → (∀ (m : Nat) (R' F' T' N' : Nat → Int32), m ≤ n → ss_L (ss_at R' F' T' N') 0 m = ss_L (ss_at R F T N) 0 k ++ (ss_L (ss_at R F T N) i d).filter (ss_lv yc o s) → post (nI m, yc, yr, yf, R', F', T', N', o, s, cc, cr, ci, cg, cn, yk, yl, ym, sr, si, ke)) → wY_forget_4 post (d + 1) (nI k) (nI i) (nI n) yc yr yf R F T N o s cc cr ci cg cn yk yl ym sr si ke := by
  intro d
  induction d with
  | zero =>
    intro i k R F T N hki hi hp
    exact br_t (nI_le (by omega) (by omega)) (hp k R F T N (by omega) (by rw [ss_L, List.filter_nil, List.append_nil]))
  | succ d ih =>
    intro i k R F T N hki hi hp
    refine br_f (nI_ge (by omega) (by omega)) (ys_live (by omega) ?_)
    cases hb : ss_lv yc o s (ss_at R F T N i) with
    | false =>
      refine br_t rfl (nm_r (nI_1 i) (ih (i + 1) k R F T N (by omega) (by omega) (fun m R' F' T' N' hm he => hp m R' F' T' N' hm ?_)))
      rw [he, ss_L, List.filter_cons_of_neg (by rw [hb]; decide)]
    | true =>
      refine br_f ss_10 (nm_r (nI_1 k) (ys_copy (by omega) (by omega) (fun R1 F1 T1 N1 h1 h2 => ?_)))
      refine nm_r (nI_1 i) (ih (i + 1) (k + 1) R1 F1 T1 N1 (by omega) (by omega) (fun m R' F' T' N' hm he => hp m R' F' T' N' hm ?_))
      rw [he, ss_Lsnoc, Nat.zero_add, h1, List.append_assoc, List.singleton_append, ss_L, List.filter_cons_of_pos hb]
      rw [ss_Lcon (V := ss_at R1 F1 T1 N1) (W := ss_at R F T N) k 0 (fun j _ hj => h2 j (by omega))]
      rw [ss_Lcon (V := ss_at R1 F1 T1 N1) (W := ss_at R F T N) d (i + 1) (fun j hj _ => h2 j (by omega))]
theorem ys_forget {n : Nat} (hn : n ≤ 56) (hp : ∀ (m : Nat) (R' F' T' N' : Nat → Int32), m ≤ n → ss_L (ss_at R' F' T' N') 0 m = (ss_L (ss_at R F T N) 0 n).filter (ss_lv yc o s) → post (nI m, yc, yr, yf, R', F', T', N', o, s, cc, cr, ci, cg, cn, yk, yl, ym, sr, si, ke)) : wpY_forget post (nI n, yc, yr, yf, R, F, T, N, o, s, cc, cr, ci, cg, cn, yk, yl, ym, sr, si, ke) :=
  ⟨n + 1, ys_forget_loop hn n 0 0 R F T N (by omega) (by omega) (fun m R' F' T' N' hm he => hp m R' F' T' N' hm he)⟩
end
theorem i_vc_pack {k : Nat} {u : SX} {v : SY} (I : i_Rel k u v) (hk : k + 6 ≤ 3072) : wpX_pack (fun u' => wpY_pack (fun v' => i_Rel (k + 6) u' v') v) u := by
  obtain ⟨ck, rc, nx, ny, xf, yf, R, F, T, N, VR, VF, VT, VN, o, s, cc, cr, ci, cg, cn, ws, wk, wl, wm, fr, fi, yk, yl, ym, sr, si, ke, rfl, rfl, h1, h2, h3, h4⟩ := I
  unfold wpX_pack wpY_pack; dsimp only
  refine xs_dropDead h1 (fun m R' F' T' N' hm he => ?_)
  have h5 := ss_I_up (ss_I_pack h3)
  rw [← he] at h5
  exact ss_mk (by omega) h2 h5 h4
end
section
/-- begun or ended after this time -/
def ss_af (st : Int32) (v : ss_V) : Bool := decide (st.toInt < v.2.1.toInt) || decide (v.2.2.1.toInt ≠ 2147483647 ∧ st.toInt < v.2.2.1.toInt)
def ss_hc (ci cg : Nat → Int32) : Nat → Nat → Bool
  | _, 0 => false
  | i, d + 1 => decide (ci i = 0 ∨ cg i = 0) || ss_hc ci cg (i + 1) d
def ss_ng (cg : Nat → Int32) : Nat → Nat → Nat
  | _, 0 => 0
  | i, d + 1 => (if cg i = 0 then 1 else 0) + ss_ng cg (i + 1) d
/-- goes on behind t's commit -/
def ss_bh (o s cr : Nat → Int32) (t cnt : Nat) (v : ss_V) : Bool := (decide (v.2.2.1 = 2147483647) && !ss_in cr v.1 (8 * t) cnt) || ss_sn o s (nI t) v 0 4
def ss_en (c : Int32) (cr : Nat → Int32) (t cnt : Nat) (v : ss_V) : ss_V := if v.2.2.1 = 2147483647 ∧ ss_in cr v.1 (8 * t) cnt = true then (v.1, v.2.1, c, v.2.2.2) else v
def ss_nv (c : Int32) (cr cn : Nat → Int32) (i : Nat) : ss_V := (cr i, c, 2147483647, cn (3 * i), cn (3 * i + 1), cn (3 * i + 2))
def ss_nw (c : Int32) (cr cn cg : Nat → Int32) : Nat → Nat → List ss_V
  | _, 0 => []
  | i, d + 1 => if cg i = 0 then ss_nv c cr cn i :: ss_nw c cr cn cg (i + 1) d else ss_nw c cr cn cg (i + 1) d
theorem ss_nw_len (c : Int32) (cr cn cg : Nat → Int32) : ∀ d i, (ss_nw c cr cn cg i d).length = ss_ng cg i d := by
  intro d
  induction d with
  | zero => intro i; rfl
  | succ d ih =>
    intro i
    rw [ss_nw, ss_ng]
    by_cases z : cg i = 0
    · rw [if_pos z, if_pos z, List.length_cons, ih]; omega
    · rw [if_neg z, if_neg z, ih]; omega
theorem ss_ng_le (cg : Nat → Int32) : ∀ d i, ss_ng cg i d ≤ d := by
  intro d
  induction d with
  | zero => intro i; exact Nat.le_refl 0
  | succ d ih =>
    intro i
    rw [ss_ng]
    have := ih (i + 1)
    split <;> omega
section
variable {xc xr xn xf : Int32} {R F T N o s cc cr ci cg cn ws wk wl wm fr fi : Nat → Int32}
variable {post : Int32 → Prop} {t cnt n : Nat}
theorem xs_ot_73 {J : Int32 → Prop} {i : Nat} (ht : t < 4) (hc : cc t = nI cnt) (h8 : cnt ≤ 8) (hi : i < 40) (h1 : ss_in cr (R i) (8 * t) cnt = true → post 1) (h0 : ss_in cr (R i) (8 * t) cnt = false → J (nI (i + 1))) : wX_isOvertaken_73 post J (nI t) (nI i) xc xr xn xf R F T N o s cc cr ci cg cn ws wk wl wm fr fi := by
  refine ⟨vp_in_nI hi (by decide), ?_⟩
  rw [nI_clamp (n := i) (by omega)]
  refine xs_findChange ht hc h8 (br_c (fun z => nm_r (nI_1 i) (h0 ?_)) (fun z => h1 ?_))
  · exact (ss_fc_neg (by omega)).mp z
  · rw [ss_fc_neg (by omega)] at z
    exact Bool.of_not_eq_false z
theorem xs_ot_62 {J : Int32 → Prop} {i : Nat} {b1 b2 : Bool} (h1 : (b1 || b2) = true → wX_isOvertaken_73 post J (nI t) (nI i) xc xr xn xf R F T N o s cc cr ci cg cn ws wk wl wm fr fi) (h0 : (b1 || b2) = false → J (nI (i + 1))) : wX_isOvertaken_62 post J (nI t) (nI i) (ss_b b1) (ss_b b2) xc xr xn xf R F T N o s cc cr ci cg cn ws wk wl wm fr fi := by
  cases b1 with
  | true => exact br_f ss_10 (h1 rfl)
  | false =>
    cases b2 with
    | true => exact br_t rfl (br_f ss_10 (h1 rfl))
    | false => exact br_t rfl (br_t rfl (nm_r (nI_1 i) (h0 rfl)))
theorem xs_ot_30 {J : Int32 → Prop} {i : Nat} {b1 : Bool} (ht : t < 4) (hi : i < 40) (h1 : (b1 || decide ((T i).toInt ≠ 2147483647 ∧ (s t).toInt < (T i).toInt)) = true → wX_isOvertaken_73 post J (nI t) (nI i) xc xr xn xf R F T N o s cc cr ci cg cn ws wk wl wm fr fi) (h0 : (b1 || decide ((T i).toInt ≠ 2147483647 ∧ (s t).toInt < (T i).toInt)) = false → J (nI (i + 1))) : wX_isOvertaken_30 post J (nI t) (nI i) (ss_b b1) xc xr xn xf R F T N o s cc cr ci cg cn ws wk wl wm fr fi := by
  have hv : vp_in (nI i) 40 := vp_in_nI hi (by decide)
  have hvt : vp_in (nI t) 4 := vp_in_nI ht (by decide)
  have hci : (nI i).toNatClampNeg = i := nI_clamp (by omega)
  have hct : (nI t).toNatClampNeg = t := nI_clamp (by omega)
  refine ⟨hv, ?_⟩
  rw [hci, hct]
  refine br_c (fun z => ?_) (fun z => ⟨hv, hvt, br_c (fun z2 => ?_) (fun z2 => ?_)⟩)
  · rw [ss_eq, ss_ev] at z
    rw [decide_eq_false (fun q => q.1 z)] at h1 h0
    exact xs_ot_62 (b2 := false) h1 h0
  · rw [ss_le] at z2
    rw [decide_eq_false (fun q => by have := q.2; omega)] at h1 h0
    exact xs_ot_62 (b2 := false) h1 h0
  · rw [ss_eq, ss_ev] at z
    rw [ss_le] at z2
    rw [decide_eq_true ⟨z, by omega⟩] at h1 h0
    exact xs_ot_62 (b2 := true) h1 h0
theorem xs_ot_loop (ht : t < 4) (hc : cc t = nI cnt) (h8 : cnt ≤ 8) (hn : n ≤ 40) (hx : xn = nI n) : ∀ d i, i + d = n → post (ss_b ((ss_L (ss_at R F T N) i d).any (fun v => ss_af (s t) v && ss_in cr v.1 (8 * t) cnt))) → wX_isOvertaken_2 post (nI t) xc xr xn xf R F T N o s cc cr ci cg cn ws wk wl wm fr fi (d + 1) (nI i) := by
  intro d
  induction d with
  | zero => intro i hi hp; exact br_t (by rw [hx]; exact nI_le (by omega) (by omega)) hp
  | succ d ih =>
    intro i hi hp
    have hv : vp_in (nI i) 40 := vp_in_nI (by omega) (by decide)
    have hvt : vp_in (nI t) 4 := vp_in_nI ht (by decide)
    have hci : (nI i).toNatClampNeg = i := nI_clamp (by omega)
    have hct : (nI t).toNatClampNeg = t := nI_clamp (by omega)
    have hn' := ih (i + 1) (by omega)
    rw [ss_L, List.any_cons] at hp
    have g1 : ss_af (s t) (ss_at R F T N i) = true → wX_isOvertaken_73 post (wX_isOvertaken_2 post (nI t) xc xr xn xf R F T N o s cc cr ci cg cn ws wk wl wm fr fi (d + 1)) (nI t) (nI i) xc xr xn xf R F T N o s cc cr ci cg cn ws wk wl wm fr fi := by
      intro ha
      refine xs_ot_73 ht hc h8 (by omega) (fun h => ?_) (fun h => hn' ?_)
      · rw [ha, Bool.true_and, show ss_in cr (ss_at R F T N i).1 (8 * t) cnt = true from h, Bool.true_or] at hp; exact hp
      · rw [ha, Bool.true_and, show ss_in cr (ss_at R F T N i).1 (8 * t) cnt = false from h, Bool.false_or] at hp; exact hp
    have g0 : ss_af (s t) (ss_at R F T N i) = false → wX_isOvertaken_2 post (nI t) xc xr xn xf R F T N o s cc cr ci cg cn ws wk wl wm fr fi (d + 1) (nI (i + 1)) := by
      intro ha
      refine hn' ?_
      rw [ha, Bool.false_and, Bool.false_or] at hp; exact hp
    refine br_f (by rw [hx]; exact nI_ge (by omega) (by omega)) ⟨hv, hvt, br_c (fun z => ?_) (fun z => ?_)⟩
    · rw [hci, hct, ss_le] at z
      have e : ss_af (s t) (ss_at R F T N i) = (false || decide ((T i).toInt ≠ 2147483647 ∧ (s t).toInt < (T i).toInt)) := by
        unfold ss_af
        rw [decide_eq_false (fun q : (s t).toInt < (ss_at R F T N i).2.1.toInt => by have : (s t).toInt < (F i).toInt := q; omega)]
        rfl
      rw [e] at g1 g0
      exact xs_ot_30 (b1 := false) ht (by omega) g1 g0
    · rw [hci, hct, ss_le] at z
      have e : ss_af (s t) (ss_at R F T N i) = (true || decide ((T i).toInt ≠ 2147483647 ∧ (s t).toInt < (T i).toInt)) := by
        unfold ss_af
        have h9 : (s t).toInt < (ss_at R F T N i).2.1.toInt := Int.lt_of_not_ge z
        rw [decide_eq_true h9]
        rfl
      rw [e] at g1 g0
      exact xs_ot_30 (b1 := true) ht (by omega) g1 g0
theorem xs_isOvertaken (ht : t < 4) (hc : cc t = nI cnt) (h8 : cnt ≤ 8) (hn : n ≤ 40) (hx : xn = nI n) (hp : post (ss_b ((ss_L (ss_at R F T N) 0 n).any (fun v => ss_af (s t) v && ss_in cr v.1 (8 * t) cnt)))) : wpX_isOvertaken post (xc, xr, xn, xf, R, F, T, N, o, s, cc, cr, ci, cg, cn, ws, wk, wl, wm, fr, fi) (nI t) :=
  ⟨n + 1, xs_ot_loop ht hc h8 hn hx n 0 (by omega) hp⟩
theorem xs_hc_loop (ht : t < 4) (hc : cc t = nI cnt) (h8 : cnt ≤ 8) : ∀ d i, i + d = cnt → post (ss_b (ss_hc ci cg (8 * t + i) d)) → wX_hasChanges_2 post (nI t) xc xr xn xf R F T N o s cc cr ci cg cn ws wk wl wm fr fi (d + 1) (nI i) := by
  intro d
  induction d with
  | zero =>
    intro i hi hp
    refine ⟨vp_in_nI ht (by decide), br_t ?_ hp⟩
    rw [nI_clamp (by omega), hc]; exact nI_le (by omega) (by omega)
  | succ d ih =>
    intro i hi hp
    have hv : vp_in (nI (8 * t + i)) 32 := vp_in_nI (by omega) (by decide)
    refine ⟨vp_in_nI ht (by decide), br_f ?_ (nm_r (ss_i8 t i) ⟨hv, ?_⟩)⟩
    · rw [nI_clamp (by omega), hc]; exact nI_ge (by omega) (by omega)
    · rw [nI_clamp (n := 8 * t + i) (by omega)]
      rw [ss_hc] at hp
      refine br_c (fun z => ?_) (fun z => ⟨hv, br_c (fun z2 => ?_) (fun z2 => ?_)⟩)
      · rw [decide_eq_true (Or.inl z), Bool.true_or] at hp; exact hp
      · rw [decide_eq_true (Or.inr z2), Bool.true_or] at hp; exact hp
      · rw [decide_eq_false (fun q => q.elim z z2), Bool.false_or] at hp
        exact nm_r (nI_1 i) (ih (i + 1) (by omega) hp)
theorem xs_hasChanges (ht : t < 4) (hc : cc t = nI cnt) (h8 : cnt ≤ 8) (hp : post (ss_b (ss_hc ci cg (8 * t) cnt))) : wpX_hasChanges post (xc, xr, xn, xf, R, F, T, N, o, s, cc, cr, ci, cg, cn, ws, wk, wl, wm, fr, fi) (nI t) :=
  ⟨cnt + 1, xs_hc_loop ht hc h8 cnt 0 (by omega) hp⟩
theorem xs_clb_69 (ht : t < 4) (hc : cc t = nI cnt) (h8 : cnt ≤ 8) : ∀ d i c, i + d = cnt → post (nI (c + ss_ng cg (8 * t + i) d)) → wX_countLiveBehind_69 post (nI t) xc xr xn xf R F T N o s cc cr ci cg cn ws wk wl wm fr fi (d + 1) (nI c) (nI i) := by
  intro d
  induction d with
  | zero =>
    intro i c hi hp
    refine ⟨vp_in_nI ht (by decide), br_t ?_ hp⟩
    rw [nI_clamp (by omega), hc]; exact nI_le (by omega) (by omega)
  | succ d ih =>
    intro i c hi hp
    refine ⟨vp_in_nI ht (by decide), br_f ?_ ?_⟩
    · rw [nI_clamp (by omega), hc]; exact nI_ge (by omega) (by omega)
    · rw [ss_i8, nI_clamp (n := 8 * t + i) (by omega)]
      rw [ss_ng] at hp
      refine ⟨vp_in_nI (by omega) (by decide), br_c (fun z => ?_) (fun z => ?_)⟩
      · rw [if_pos z, ← Nat.add_assoc] at hp
        exact nm_r (nI_1 c) (nm_r (nI_1 i) (ih (i + 1) (c + 1) (by omega) hp))
      · rw [if_neg z, Nat.zero_add] at hp
        exact nm_r (nI_1 i) (ih (i + 1) c (by omega) hp)
theorem xs_clb_42 {J : Int32 → Int32 → Prop} {i c : Nat} {b : Bool} (hi : i < 40) (h1 : (b || ss_sn o s (nI t) (ss_at R F T N i) 0 4) = true → J (nI (c + 1)) (nI (i + 1))) (h0 : (b || ss_sn o s (nI t) (ss_at R F T N i) 0 4) = false → J (nI c) (nI (i + 1))) : wX_countLiveBehind_42 post J (nI t) (nI c) (nI i) (ss_b b) xc xr xn xf R F T N o s cc cr ci cg cn ws wk wl wm fr fi := by
  cases b with
  | true => exact br_f ss_10 (nm_r (nI_1 c) (nm_r (nI_1 i) (h1 rfl)))
  | false =>
    refine br_t rfl (xs_isSeenByOpen hi ?_)
    cases hb : ss_sn o s (nI t) (ss_at R F T N i) 0 4 with
    | true => exact br_f ss_10 (nm_r (nI_1 c) (nm_r (nI_1 i) (h1 (by rw [hb]; rfl))))
    | false => exact br_t rfl (nm_r (nI_1 i) (h0 (by rw [hb]; rfl)))
theorem xs_clb_loop (ht : t < 4) (hc : cc t = nI cnt) (h8 : cnt ≤ 8) (hn : n ≤ 40) (hx : xn = nI n) : ∀ d i c, i + d = n → post (nI (c + (ss_L (ss_at R F T N) i d).countP (ss_bh o s cr t cnt) + ss_ng cg (8 * t) cnt)) → wX_countLiveBehind_4 post (nI t) xc xr xn xf R F T N o s cc cr ci cg cn ws wk wl wm fr fi (d + 1) (nI c) (nI i) := by
  intro d
  induction d with
  | zero =>
    intro i c hi hp
    exact br_t (by rw [hx]; exact nI_le (by omega) (by omega)) ⟨cnt + 1, xs_clb_69 ht hc h8 cnt 0 c (by omega) hp⟩
  | succ d ih =>
    intro i c hi hp
    have hv : vp_in (nI i) 40 := vp_in_nI (by omega) (by decide)
    rw [ss_L, List.countP_cons] at hp
    have g1 : ss_bh o s cr t cnt (ss_at R F T N i) = true → wX_countLiveBehind_4 post (nI t) xc xr xn xf R F T N o s cc cr ci cg cn ws wk wl wm fr fi (d + 1) (nI (c + 1)) (nI (i + 1)) := by
      intro h
      refine ih (i + 1) (c + 1) (by omega) ?_
      rw [if_pos h] at hp
      rw [show c + 1 + (ss_L (ss_at R F T N) (i + 1) d).countP (ss_bh o s cr t cnt) = c + ((ss_L (ss_at R F T N) (i + 1) d).countP (ss_bh o s cr t cnt) + 1) from by omega]
      exact hp
    have g0 : ss_bh o s cr t cnt (ss_at R F T N i) = false → wX_countLiveBehind_4 post (nI t) xc xr xn xf R F T N o s cc cr ci cg cn ws wk wl wm fr fi (d + 1) (nI c) (nI (i + 1)) := by
      intro h
      refine ih (i + 1) c (by omega) ?_
      rw [if_neg (by rw [h]; decide), Nat.add_zero] at hp
      exact hp
    refine br_f (by rw [hx]; exact nI_ge (by omega) (by omega)) ⟨hv, ?_⟩
    rw [nI_clamp (n := i) (by omega)]
    refine br_c (fun z => ⟨hv, xs_findChange ht hc h8 (br_c (fun z2 => ?_) (fun z2 => ?_))⟩) (fun z => ?_)
    · rw [ss_fc_pos (by omega)] at z2
      have e : ss_bh o s cr t cnt (ss_at R F T N i) = (false || ss_sn o s (nI t) (ss_at R F T N i) 0 4) := by
        unfold ss_bh
        rw [show ss_in cr (ss_at R F T N i).1 (8 * t) cnt = true from z2, Bool.not_true, Bool.and_false]
      rw [e] at g1 g0
      exact xs_clb_42 (b := false) (by omega) g1 g0
    · rw [ss_fc_pos (by omega)] at z2
      have e : ss_bh o s cr t cnt (ss_at R F T N i) = (true || ss_sn o s (nI t) (ss_at R F T N i) 0 4) := by
        unfold ss_bh
        rw [show ss_in cr (ss_at R F T N i).1 (8 * t) cnt = false from Bool.of_not_eq_true z2, Bool.not_false, Bool.and_true, decide_eq_true (show (ss_at R F T N i).2.2.1 = 2147483647 from z)]
      rw [e] at g1 g0
      exact xs_clb_42 (b := true) (by omega) g1 g0
    · have e : ss_bh o s cr t cnt (ss_at R F T N i) = (false || ss_sn o s (nI t) (ss_at R F T N i) 0 4) := by
        unfold ss_bh
        rw [decide_eq_false (show ¬ (ss_at R F T N i).2.2.1 = 2147483647 from z), Bool.false_and]
      rw [e] at g1 g0
      exact xs_clb_42 (b := false) (by omega) g1 g0
theorem xs_countLiveBehind (ht : t < 4) (hc : cc t = nI cnt) (h8 : cnt ≤ 8) (hn : n ≤ 40) (hx : xn = nI n) (hp : post (nI ((ss_L (ss_at R F T N) 0 n).countP (ss_bh o s cr t cnt) + ss_ng cg (8 * t) cnt))) : wpX_countLiveBehind post (xc, xr, xn, xf, R, F, T, N, o, s, cc, cr, ci, cg, cn, ws, wk, wl, wm, fr, fi) (nI t) :=
  ⟨n + 1, xs_clb_loop ht hc h8 hn hx n 0 0 (by omega) (by rw [Nat.zero_add]; exact hp)⟩
variable {ps : SX → Prop}
theorem xs_end_loop (ht : t < 4) (hc : cc t = nI cnt) (h8 : cnt ≤ 8) (hn : n ≤ 40) (hx : xn = nI n) : ∀ (d i : Nat) (T : Nat → Int32), i + d = n → (∀ T' : Nat → Int32, (∀ j, j < i → T' j = T j) → (∀ j, i ≤ j → j < n → ss_at R F T' N j = ss_en xc cr t cnt (ss_at R F T N j)) → ps (xc, xr, xn, xf, R, F, T', N, o, s, cc, cr, ci, cg, cn, ws, wk, wl, wm, fr, fi)) → wX_endChangedVersions_2 ps (nI t) xc xr xn xf (d + 1) (nI i) R F T N o s cc cr ci cg cn ws wk wl wm fr fi := by
  intro d
  induction d with
  | zero =>
    intro i T hi hp
    exact br_t (by rw [hx]; exact nI_le (by omega) (by omega)) (hp T (fun _ _ => rfl) (fun j h1 h2 => by omega))
  | succ d ih =>
    intro i T hi hp
    have hv : vp_in (nI i) 40 := vp_in_nI (by omega) (by decide)
    have g0 : ss_en xc cr t cnt (ss_at R F T N i) = ss_at R F T N i → wX_endChangedVersions_2 ps (nI t) xc xr xn xf (d + 1) (nI (i + 1)) R F T N o s cc cr ci cg cn ws wk wl wm fr fi := by
      intro h
      refine ih (i + 1) T (by omega) (fun T' h1 h2 => hp T' (fun j hj => h1 j (by omega)) (fun j hj1 hj2 => ?_))
      by_cases e : j = i
      · subst e; rw [h]; exact ss_at_ext rfl rfl (h1 j (by omega)) ⟨rfl, rfl, rfl⟩
      · exact h2 j (by omega) hj2
    refine br_f (by rw [hx]; exact nI_ge (by omega) (by omega)) ⟨hv, ?_⟩
    rw [nI_clamp (n := i) (by omega)]
    refine br_c (fun z => ⟨hv, xs_findChange ht hc h8 (br_c (fun z2 => nm_r (nI_1 i) (g0 ?_)) (fun z2 => ⟨hv, nm_e (nm_r (nI_1 i) (ih (i + 1) (upd T i xc) (by omega) (fun T' h1 h2 => hp T' (fun j hj => ?_) (fun j hj1 hj2 => ?_))))⟩))⟩) (fun z => nm_r (nI_1 i) (g0 ?_))
    · unfold ss_en
      rw [if_neg]
      intro q
      have q2 : ss_in cr (R i) (8 * t) cnt = true := q.2
      rw [(ss_fc_neg (by omega)).mp z2] at q2; exact nomatch q2
    · rw [h1 j (by omega), ss_un (by omega)]
    · by_cases e : j = i
      · subst e
        have z3 : ss_in cr (R j) (8 * t) cnt = true := by
          rw [ss_fc_neg (by omega)] at z2; exact Bool.of_not_eq_false z2
        unfold ss_en
        rw [if_pos ⟨z, z3⟩]
        unfold ss_at
        rw [h1 j (by omega), ss_us]
      · rw [h2 j (by omega) hj2]
        rw [show ss_at R F (upd T i xc) N j = ss_at R F T N j from ss_at_ext rfl rfl (ss_un e) ⟨rfl, rfl, rfl⟩]
    · unfold ss_en
      rw [if_neg]
      intro q
      exact z q.1
theorem xs_endChanged (ht : t < 4) (hc : cc t = nI cnt) (h8 : cnt ≤ 8) (hn : n ≤ 40) (hx : xn = nI n) (hp : ∀ T' : Nat → Int32, ss_L (ss_at R F T' N) 0 n = (ss_L (ss_at R F T N) 0 n).map (ss_en xc cr t cnt) → ps (xc, xr, xn, xf, R, F, T', N, o, s, cc, cr, ci, cg, cn, ws, wk, wl, wm, fr, fi)) : wpX_endChangedVersions ps (xc, xr, xn, xf, R, F, T, N, o, s, cc, cr, ci, cg, cn, ws, wk, wl, wm, fr, fi) (nI t) := by
  refine ⟨n + 1, xs_end_loop ht hc h8 hn hx n 0 T (by omega) (fun T' _ h2 => hp T' ?_)⟩
  rw [ss_Lmap]
  exact ss_Lcon n 0 (fun j h1 h3 => h2 j h1 (by omega))
theorem ss_nv_at {R F T N cr cn R' F' T' N' : Nat → Int32} {m j : Nat} {c : Int32} (hR : R' = upd R m (cr j)) (hF : F' = upd F m c) (hT : T' = upd T m 2147483647)
    (hN : N' = upd (upd (upd N (3 * m) (cn (3 * j))) (3 * m + 1) (cn (3 * j + 1))) (3 * m + 2) (cn (3 * j + 2))) :
    ss_at R' F' T' N' m = ss_nv c cr cn j ∧ (∀ i, i < m → ss_at R' F' T' N' i = ss_at R F T N i) := by
  subst hR hF hT hN
  refine ⟨?_, fun i hi => ss_at_ext (ss_un (by omega)) (ss_un (by omega)) (ss_un (by omega)) ⟨?_, ?_, ?_⟩⟩
  · unfold ss_at ss_nv
    rw [ss_us, ss_us, ss_us, ss_us]
    rw [ss_un (by omega), ss_un (by omega), ss_us, ss_un (by omega), ss_us]
  · rw [ss_un (by omega), ss_un (by omega), ss_un (by omega)]
  · rw [ss_un (by omega), ss_un (by omega), ss_un (by omega)]
  · rw [ss_un (by omega), ss_un (by omega), ss_un (by omega)]
theorem xs_addVersion {j m : Nat} (hj : j < 32) (hm : m < 40) (hp : ∀ R' F' T' N' : Nat → Int32, ss_at R' F' T' N' m = ss_nv xc cr cn j → (∀ i, i < m → ss_at R' F' T' N' i = ss_at R F T N i) → ps (xc, xr, nI (m + 1), xf, R', F', T', N', o, s, cc, cr, ci, cg, cn, ws, wk, wl, wm, fr, fi)) : wpX_addVersion ps (xc, xr, nI m, xf, R, F, T, N, o, s, cc, cr, ci, cg, cn, ws, wk, wl, wm, fr, fi) (nI j) := by
  have hv : vp_in (nI j) 32 := vp_in_nI hj (by decide)
  have hvm : vp_in (nI m) 40 := vp_in_nI hm (by decide)
  have hcj : (nI j).toNatClampNeg = j := nI_clamp (by omega)
  have hcm : (nI m).toNatClampNeg = m := nI_clamp (by omega)
  refine ⟨hv, hvm, nm_r (e' := upd R m (cr j)) (by rw [hcj, hcm]) ⟨hvm, nm_r (e' := upd F m xc) (by rw [hcm]) ⟨hvm, nm_r (e' := upd T m 2147483647) (by rw [hcm]) ?_⟩⟩⟩
  have hN := ss_nv_at (R := R) (F := F) (T := T) (N := N) (cr := cr) (cn := cn) (m := m) (j := j) (c := xc) rfl rfl rfl rfl
  have hq := hp _ _ _ _ hN.1 hN.2
  exact ⟨4, br_f (by decide) ⟨by rw [ss_k30 j]; exact vp_in_nI (by omega) (by decide), by rw [ss_k30 m]; exact vp_in_nI (by omega) (by decide), nm_r (e' := upd N (3 * m) (cn (3 * j))) (by rw [ss_k30 m, ss_k30 j, nI_clamp (n := 3 * m) (by omega), nI_clamp (n := 3 * j) (by omega)]) (nm_r (e' := 1) (by decide) (br_f (by decide) ⟨by rw [ss_k31 j]; exact vp_in_nI (by omega) (by decide), by rw [ss_k31 m]; exact vp_in_nI (by omega) (by decide), nm_r (e' := upd (upd N (3 * m) (cn (3 * j))) (3 * m + 1) (cn (3 * j + 1))) (by rw [ss_k31 m, ss_k31 j, nI_clamp (n := 3 * m + 1) (by omega), nI_clamp (n := 3 * j + 1) (by omega)]) (nm_r (e' := 2) (by decide) (br_f (by decide) ⟨by rw [ss_k32 j]; exact vp_in_nI (by omega) (by decide), by rw [ss_k32 m]; exact vp_in_nI (by omega) (by decide), nm_r (e' := upd (upd (upd N (3 * m) (cn (3 * j))) (3 * m + 1) (cn (3 * j + 1))) (3 * m + 2) (cn (3 * j + 2))) (by rw [ss_k32 m, ss_k32 j, nI_clamp (n := 3 * m + 2) (by omega), nI_clamp (n := 3 * j + 2) (by omega)]) (nm_r (e' := 3) (by decide) (br_t (by decide) (nm_r (nI_1 m) hq)))⟩))⟩))⟩⟩
theorem xs_addNew_loop (ht : t < 4) (hc : cc t = nI cnt) (h8 : cnt ≤ 8) : ∀ (d i m : Nat) (R F T N : Nat → Int32), i + d = cnt → m + ss_ng cg (8 * t + i) d ≤ 40 → (∀ (m' : Nat) (R' F' T' N' : Nat → Int32), ss_L (ss_at R' F' T' N') 0 m' = ss_L (ss_at R F T N) 0 m ++ ss_nw xc cr cn cg (8 * t + i) d → ps (xc, xr, nI m', xf, R', F', T', N', o, s, cc, cr, ci, cg, cn, ws, wk, wl, wm, fr, fi)) → wX_addNewVersions_2 ps (nI t) (d + 1) (nI i) xc xr (nI m) xf R F T N o s cc cr ci cg cn ws wk wl wm fr fi := by
  intro d
  induction d with
  | zero =>
    intro i m R F T N hi hm hp
    refine ⟨vp_in_nI ht (by decide), br_t ?_ (hp m R F T N (by rw [ss_nw, List.append_nil]))⟩
    rw [nI_clamp (by omega), hc]; exact nI_le (by omega) (by omega)
  | succ d ih =>
    intro i m R F T N hi hm hp
    have hv : vp_in (nI (8 * t + i)) 32 := vp_in_nI (by omega) (by decide)
    rw [ss_ng] at hm
    refine ⟨vp_in_nI ht (by decide), br_f ?_ (nm_r (ss_i8 t i) ⟨hv, ?_⟩)⟩
    · rw [nI_clamp (by omega), hc]; exact nI_ge (by omega) (by omega)
    · rw [nI_clamp (n := 8 * t + i) (by omega)]
      refine br_c (fun z => ?_) (fun z => ?_)
      · rw [if_pos z] at hm
        have hm' : m + 1 + ss_ng cg (8 * t + (i + 1)) d ≤ 40 := by
          have e : 8 * t + (i + 1) = 8 * t + i + 1 := by omega
          rw [e]; omega
        refine br_f (nI_ge (b := 40) (by omega) (by decide)) (xs_addVersion (by omega) (by omega) (fun R1 F1 T1 N1 h1 h2 => ?_))
        refine nm_r (nI_1 i) (ih (i + 1) (m + 1) R1 F1 T1 N1 (by omega) hm' (fun m' R' F' T' N' he => hp m' R' F' T' N' ?_))
        rw [he, ss_nw, if_pos z, ss_Lsnoc, Nat.zero_add, h1, List.append_assoc, List.singleton_append]
        rw [ss_Lcon (V := ss_at R1 F1 T1 N1) (W := ss_at R F T N) m 0 (fun j _ hj => h2 j (by omega))]
        rfl
      · rw [if_neg z, Nat.zero_add] at hm
        refine nm_r (nI_1 i) (ih (i + 1) m R F T N (by omega) hm (fun m' R' F' T' N' he => hp m' R' F' T' N' ?_))
        rw [he, ss_nw, if_neg z]
        rfl
theorem xs_addNew {m : Nat} (ht : t < 4) (hc : cc t = nI cnt) (h8 : cnt ≤ 8) (hm : m + ss_ng cg (8 * t) cnt ≤ 40) (hp : ∀ (m' : Nat) (R' F' T' N' : Nat → Int32), ss_L (ss_at R' F' T' N') 0 m' = ss_L (ss_at R F T N) 0 m ++ ss_nw xc cr cn cg (8 * t) cnt → ps (xc, xr, nI m', xf, R', F', T', N', o, s, cc, cr, ci, cg, cn, ws, wk, wl, wm, fr, fi)) : wpX_addNewVersions ps (xc, xr, nI m, xf, R, F, T, N, o, s, cc, cr, ci, cg, cn, ws, wk, wl, wm, fr, fi) (nI t) :=
  ⟨cnt + 1, xs_addNew_loop ht hc h8 cnt 0 m R F T N (by omega) hm hp⟩
end
end
section
def ss_ck (st : Int32) (cr ci : Nat → Int32) (k : Nat) (v : ss_V) : Bool := decide (ci k = 0) && (decide (v.1 = cr k) && ss_af st v)
def ss_cf (st : Int32) (cr ci : Nat → Int32) (L : List ss_V) : Nat → Nat → Bool
  | _, 0 => false
  | k, d + 1 => L.any (ss_ck st cr ci k) || ss_cf st cr ci L (k + 1) d
def ss_md (ci cg : Nat → Int32) : Nat → Nat → Nat
  | _, 0 => 0
  | i, d + 1 => (if ci i = 0 ∨ cg i = 0 then 1 else 0) + ss_md ci cg (i + 1) d
theorem ss_md_le (ci cg : Nat → Int32) : ∀ d i, ss_md ci cg i d ≤ d := by
  intro d
  induction d with
  | zero => intro i; exact Nat.le_refl 0
  | succ d ih =>
    intro i
    rw [ss_md]
    have := ih (i + 1)
    split <;> omega
theorem ss_md_hc (ci cg : Nat → Int32) : ∀ d i, 0 < ss_md ci cg i d ↔ ss_hc ci cg i d = true := by
  intro d
  induction d with
  | zero => intro i; exact ⟨fun h => absurd h (by rw [ss_md]; omega), fun h => nomatch h⟩
  | succ d ih =>
    intro i
    rw [ss_md, ss_hc, Bool.or_eq_true, decide_eq_true_iff, ← ih]
    by_cases z : ci i = 0 ∨ cg i = 0
    · rw [if_pos z]; exact ⟨fun _ => Or.inl z, fun _ => by omega⟩
    · rw [if_neg z, Nat.zero_add]; exact ⟨fun h => Or.inr h, fun h => h.elim (fun q => absurd q z) id⟩
section
variable {yn yc yr yf : Int32} {R F T N o s cc cr ci cg cn yk yl ym sr si ke : Nat → Int32}
variable {post : Int32 → Prop} {t cnt n : Nat}
theorem ys_cf_76 {J5 J : Int32 → Prop} {k i : Nat} {z : Bool} (hk : k < 32) (hi : i < 56) (h1 : (decide (ci k = 0) && (decide (R i = cr k) && z)) = true → post 1) (h0 : (decide (ci k = 0) && (decide (R i = cr k) && z)) = false → J (nI (i + 1))) : wY_conflicts_76 post J5 J (nI t) (nI k) (nI i) (ss_b z) yn yc yr yf R F T N o s cc cr ci cg cn yk yl ym sr si ke := by
  have hvk : vp_in (nI k) 32 := vp_in_nI hk (by decide)
  have hvi : vp_in (nI i) 56 := vp_in_nI hi (by decide)
  have hck : (nI k).toNatClampNeg = k := nI_clamp (by omega)
  have hci : (nI i).toNatClampNeg = i := nI_clamp (by omega)
  refine ⟨hvk, ?_⟩
  rw [hck, hci]
  refine br_c (fun z1 => ⟨hvi, hvk, br_c (fun z2 => ?_) (fun z2 => nm_r (nI_1 i) (h0 ?_))⟩) (fun z1 => nm_r (nI_1 i) (h0 ?_))
  · rw [decide_eq_true z1, decide_eq_true z2, Bool.true_and, Bool.true_and] at h1 h0
    cases z with
    | true => exact br_f ss_10 (h1 rfl)
    | false => exact br_t rfl (nm_r (nI_1 i) (h0 rfl))
  · rw [decide_eq_false z2, Bool.false_and, Bool.and_false]
  · rw [decide_eq_false z1, Bool.false_and]
theorem ys_cf_22 {J5 : Int32 → Prop} {k : Nat} (ht : t < 4) (hk : k < 32) (hn : n ≤ 56) (hx : yn = nI n) : ∀ d i, i + d = n → ((ss_L (ss_at R F T N) i d).any (ss_ck (s t) cr ci k) = true → post 1) → ((ss_L (ss_at R F T N) i d).any (ss_ck (s t) cr ci k) = false → J5 (nI (k + 1))) → wY_conflicts_22 post J5 (nI t) (nI k) yn yc yr yf R F T N o s cc cr ci cg cn yk yl ym sr si ke (d + 1) (nI i) := by
  intro d
  induction d with
  | zero =>
    intro i hi h1 h0
    exact br_t (by rw [hx]; exact nI_le (by omega) (by omega)) (nm_r (nI_1 k) (h0 rfl))
  | succ d ih =>
    intro i hi h1 h0
    have hvt : vp_in (nI t) 4 := vp_in_nI ht (by decide)
    have hvi : vp_in (nI i) 56 := vp_in_nI (by omega) (by decide)
    have hct : (nI t).toNatClampNeg = t := nI_clamp (by omega)
    have hci : (nI i).toNatClampNeg = i := nI_clamp (by omega)
    rw [ss_L, List.any_cons] at h1 h0
    have g : ∀ z : Bool, ss_af (s t) (ss_at R F T N i) = z → wY_conflicts_76 post J5 (wY_conflicts_22 post J5 (nI t) (nI k) yn yc yr yf R F T N o s cc cr ci cg cn yk yl ym sr si ke (d + 1)) (nI t) (nI k) (nI i) (ss_b z) yn yc yr yf R F T N o s cc cr ci cg cn yk yl ym sr si ke := by
      intro z hz
      have e : ss_ck (s t) cr ci k (ss_at R F T N i) = (decide (ci k = 0) && (decide (R i = cr k) && z)) := by
        unfold ss_ck; rw [hz]; rfl
      rw [e] at h1 h0
      refine ys_cf_76 hk (by omega) (fun h => h1 (by rw [h]; rfl)) (fun h => ih (i + 1) (by omega) (fun q => h1 ?_) (fun q => h0 ?_))
      · rw [q, Bool.or_true]
      · rw [h, q]; rfl
    refine br_f (by rw [hx]; exact nI_ge (by omega) (by omega)) ⟨hvi, hvt, ?_⟩
    rw [hci, hct]
    have hT : (T i).toInt < 2147483648 := by have := Int32.toInt_lt (T i); omega
    refine br_c (fun z1 => g true ?_) (fun z1 => ⟨hvi, br_c (fun z2 => g false ?_) (fun z2 => ⟨hvi, hvt, br_c (fun z3 => g false ?_) (fun z3 => g true ?_)⟩)⟩)
    · rw [ss_lt] at z1
      unfold ss_af
      rw [decide_eq_true (show (s t).toInt < (ss_at R F T N i).2.1.toInt from z1), Bool.true_or]
    · rw [ss_lt] at z1
      rw [ss_le, ss_ev] at z2
      unfold ss_af
      rw [decide_eq_false (show ¬ (s t).toInt < (ss_at R F T N i).2.1.toInt from z1), Bool.false_or]
      exact decide_eq_false (fun q => q.1 (show (T i).toInt = 2147483647 by omega))
    · rw [ss_lt] at z1
      rw [ss_le] at z3
      unfold ss_af
      rw [decide_eq_false (show ¬ (s t).toInt < (ss_at R F T N i).2.1.toInt from z1), Bool.false_or]
      exact decide_eq_false (fun q => by have h9 : (s t).toInt < (T i).toInt := q.2; omega)
    · rw [ss_le, ss_ev] at z2
      rw [ss_le] at z3
      unfold ss_af
      have h9 : (ss_at R F T N i).2.2.1.toInt ≠ 2147483647 ∧ (s t).toInt < (ss_at R F T N i).2.2.1.toInt := ⟨fun q => z2 (Int.le_of_eq q.symm), Int.lt_of_not_ge z3⟩
      rw [decide_eq_true h9, Bool.or_true]
theorem ys_cf_loop (ht : t < 4) (hc : cc t = nI cnt) (h8 : cnt ≤ 8) (hn : n ≤ 56) (hx : yn = nI n) : ∀ d i, i + d = cnt → post (ss_b (ss_cf (s t) cr ci (ss_L (ss_at R F T N) 0 n) (8 * t + i) d)) → wY_conflicts_5 post (nI t) yn yc yr yf R F T N o s cc cr ci cg cn yk yl ym sr si ke (d + 1) (nI (8 * t + i)) := by
  intro d
  have e8 : 8 * nI t + cc (nI t).toNatClampNeg = nI (8 * t + cnt) := by rw [nI_clamp (by omega), hc, ss_8i]
  induction d with
  | zero =>
    intro i hi hp
    refine ⟨vp_in_nI ht (by decide), br_t ?_ hp⟩
    rw [e8]; exact nI_le (by omega) (by omega)
  | succ d ih =>
    intro i hi hp
    rw [ss_cf] at hp
    refine ⟨vp_in_nI ht (by decide), br_f ?_ ⟨n + 1, ys_cf_22 ht (by omega) hn hx n 0 (by omega) (fun h => ?_) (fun h => ih (i + 1) (by omega) ?_)⟩⟩
    · rw [e8]; exact nI_ge (by omega) (by omega)
    · rw [h, Bool.true_or] at hp; exact hp
    · rw [h, Bool.false_or] at hp; exact hp
theorem ys_conflicts (ht : t < 4) (hc : cc t = nI cnt) (h8 : cnt ≤ 8) (hn : n ≤ 56) (hx : yn = nI n) (hp : post (ss_b (ss_cf (s t) cr ci (ss_L (ss_at R F T N) 0 n) (8 * t) cnt))) : wpY_conflicts post (yn, yc, yr, yf, R, F, T, N, o, s, cc, cr, ci, cg, cn, yk, yl, ym, sr, si, ke) (nI t) :=
  nm_r (ss_8j t) ⟨cnt + 1, ys_cf_loop ht hc h8 hn hx cnt 0 (by omega) hp⟩
theorem ys_ab_108t {J : Int32 → Int32 → Prop} {k c : Nat} (hp : J (nI (c + 1)) (nI (k + 1))) : ∀ d i, i + d = 4 → wY_aliveBehind_108 post J (nI t) (nI c) (nI k) yn yc yr yf R F T N o s cc cr ci cg cn yk yl ym sr si ke (d + 1) 1 (nI i) := by
  intro d
  induction d with
  | zero => intro i hi; exact br_t (nI_le (a := 4) (by omega) (by omega)) (br_f ss_10 (nm_r (nI_1 c) (nm_r (nI_1 k) hp)))
  | succ d ih =>
    intro i hi
    exact br_f (nI_ge (b := 4) (by omega) (by decide)) (br_f ss_10 (nm_r (nI_1 i) (ih (i + 1) (by omega))))
theorem ys_ab_108f {J : Int32 → Int32 → Prop} {k c : Nat} (hk : k < 56) : ∀ d i, i + d = 4 → (ss_sn o s (nI t) (ss_at R F T N k) i d = true → J (nI (c + 1)) (nI (k + 1))) → (ss_sn o s (nI t) (ss_at R F T N k) i d = false → J (nI c) (nI (k + 1))) → wY_aliveBehind_108 post J (nI t) (nI c) (nI k) yn yc yr yf R F T N o s cc cr ci cg cn yk yl ym sr si ke (d + 1) 0 (nI i) := by
  intro d
  induction d with
  | zero => intro i hi h1 h0; exact br_t (nI_le (a := 4) (by omega) (by omega)) (br_t rfl (nm_r (nI_1 k) (h0 rfl)))
  | succ d ih =>
    intro i hi h1 h0
    have hc : (nI i).toNatClampNeg = i := nI_clamp (by omega)
    have hn := ih (i + 1) (by omega)
    rw [ss_sn] at h1 h0
    refine br_f (nI_ge (b := 4) (by omega) (by decide)) (br_t rfl ⟨vp_in_nI (by omega) (by decide), ?_⟩)
    rw [hc]
    refine br_c (fun z => nm_r (nI_1 i) ?_) (fun z => br_c (fun z2 => nm_r (nI_1 i) ?_) (fun z2 => ⟨vp_in_nI (by omega) (by decide), ?_⟩))
    · rw [decide_eq_false (fun q => q.1 z), Bool.false_and, Bool.false_or] at h1 h0; exact hn h1 h0
    · rw [decide_eq_false (fun q => q.2 z2), Bool.false_and, Bool.false_or] at h1 h0; exact hn h1 h0
    · rw [decide_eq_true ⟨z, z2⟩, Bool.true_and] at h1 h0
      refine ys_holds hk ?_
      cases hb : ss_hd (ss_at R F T N k) (s i) with
      | false => rw [hb, Bool.false_or] at h1 h0; exact br_t rfl (nm_r (nI_1 i) (hn h1 h0))
      | true => rw [hb, Bool.true_or] at h1; exact br_f ss_10 (nm_r (nI_1 i) (ys_ab_108t (h1 rfl) d (i + 1) (by omega)))
theorem ys_ab_loop (ht : t < 4) (hc : cc t = nI cnt) (h8 : cnt ≤ 8) (hn : n ≤ 56) (hx : yn = nI n) : ∀ d i c, i + d = n → post (nI (c + (ss_L (ss_at R F T N) i d).countP (ss_bh o s cr t cnt))) → wY_aliveBehind_42 post (nI t) yn yc yr yf R F T N o s cc cr ci cg cn yk yl ym sr si ke (d + 1) (nI c) (nI i) := by
  intro d
  induction d with
  | zero => intro i c hi hp; exact br_t (by rw [hx]; exact nI_le (by omega) (by omega)) hp
  | succ d ih =>
    intro i c hi hp
    have hv : vp_in (nI i) 56 := vp_in_nI (by omega) (by decide)
    have hci : (nI i).toNatClampNeg = i := nI_clamp (by omega)
    rw [ss_L, List.countP_cons] at hp
    have g1 : ss_bh o s cr t cnt (ss_at R F T N i) = true → wY_aliveBehind_42 post (nI t) yn yc yr yf R F T N o s cc cr ci cg cn yk yl ym sr si ke (d + 1) (nI (c + 1)) (nI (i + 1)) := by
      intro h
      refine ih (i + 1) (c + 1) (by omega) ?_
      rw [if_pos h] at hp
      rw [show c + 1 + (ss_L (ss_at R F T N) (i + 1) d).countP (ss_bh o s cr t cnt) = c + ((ss_L (ss_at R F T N) (i + 1) d).countP (ss_bh o s cr t cnt) + 1) from by omega]
      exact hp
    have g0 : ss_bh o s cr t cnt (ss_at R F T N i) = false → wY_aliveBehind_42 post (nI t) yn yc yr yf R F T N o s cc cr ci cg cn yk yl ym sr si ke (d + 1) (nI c) (nI (i + 1)) := by
      intro h
      refine ih (i + 1) c (by omega) ?_
      rw [if_neg (by rw [h]; decide), Nat.add_zero] at hp
      exact hp
    refine br_f (by rw [hx]; exact nI_ge (by omega) (by omega)) ⟨hv, ?_⟩
    rw [hci]
    refine br_c (fun z => ⟨hv, ys_changeOf ht hc h8 (br_c (fun z2 => ?_) (fun z2 => ?_))⟩) (fun z => ?_)
    · rw [ss_fc_neg (by omega)] at z2
      have e : ss_bh o s cr t cnt (ss_at R F T N i) = true := by
        unfold ss_bh
        rw [show ss_in cr (ss_at R F T N i).1 (8 * t) cnt = false from z2, Bool.not_false, Bool.and_true, decide_eq_true (show (ss_at R F T N i).2.2.1 = 2147483647 from z), Bool.true_or]
      refine ⟨hv, br_t (by rw [hci]; exact z) (br_t rfl ⟨5, ys_ab_108t (g1 e) 4 0 rfl⟩)⟩
    · rw [ss_fc_neg (by omega)] at z2
      have e : ss_bh o s cr t cnt (ss_at R F T N i) = ss_sn o s (nI t) (ss_at R F T N i) 0 4 := by
        unfold ss_bh
        rw [show ss_in cr (ss_at R F T N i).1 (8 * t) cnt = true from Bool.of_not_eq_false z2, Bool.not_true, Bool.and_false, Bool.false_or]
      rw [e] at g1 g0
      exact ⟨hv, br_t (by rw [hci]; exact z) (br_f ss_10 ⟨5, ys_ab_108f (by omega) 4 0 rfl g1 g0⟩)⟩
    · have e : ss_bh o s cr t cnt (ss_at R F T N i) = ss_sn o s (nI t) (ss_at R F T N i) 0 4 := by
        unfold ss_bh
        rw [decide_eq_false (show ¬ (ss_at R F T N i).2.2.1 = 2147483647 from z), Bool.false_and, Bool.false_or]
      rw [e] at g1 g0
      exact ⟨hv, br_f (by rw [hci]; exact z) ⟨5, ys_ab_108f (by omega) 4 0 rfl g1 g0⟩⟩
theorem ys_ab_7 (ht : t < 4) (hc : cc t = nI cnt) (h8 : cnt ≤ 8) (hn : n ≤ 56) (hx : yn = nI n) : ∀ d i c, i + d = cnt → post (nI (c + ss_ng cg (8 * t + i) d + (ss_L (ss_at R F T N) 0 n).countP (ss_bh o s cr t cnt))) → wY_aliveBehind_7 post (nI t) yn yc yr yf R F T N o s cc cr ci cg cn yk yl ym sr si ke (d + 1) (nI c) (nI (8 * t + i)) := by
  intro d
  have e8 : 8 * nI t + cc (nI t).toNatClampNeg = nI (8 * t + cnt) := by rw [nI_clamp (by omega), hc, ss_8i]
  induction d with
  | zero =>
    intro i c hi hp
    refine ⟨vp_in_nI ht (by decide), br_t ?_ ⟨n + 1, ys_ab_loop ht hc h8 hn hx n 0 c (by omega) hp⟩⟩
    rw [e8]; exact nI_le (by omega) (by omega)
  | succ d ih =>
    intro i c hi hp
    rw [ss_ng] at hp
    refine ⟨vp_in_nI ht (by decide), br_f (by rw [e8]; exact nI_ge (by omega) (by omega)) ⟨vp_in_nI (by omega) (by decide), ?_⟩⟩
    rw [nI_clamp (n := 8 * t + i) (by omega)]
    refine br_c (fun z => ?_) (fun z => ?_)
    · rw [if_pos z, ← Nat.add_assoc] at hp
      exact nm_r (nI_1 c) (nm_r (nI_1 (8 * t + i)) (ih (i + 1) (c + 1) (by omega) hp))
    · rw [if_neg z, Nat.zero_add] at hp
      exact nm_r (nI_1 (8 * t + i)) (ih (i + 1) c (by omega) hp)
theorem ys_aliveBehind (ht : t < 4) (hc : cc t = nI cnt) (h8 : cnt ≤ 8) (hn : n ≤ 56) (hx : yn = nI n) (hp : post (nI (ss_ng cg (8 * t) cnt + (ss_L (ss_at R F T N) 0 n).countP (ss_bh o s cr t cnt)))) : wpY_aliveBehind post (yn, yc, yr, yf, R, F, T, N, o, s, cc, cr, ci, cg, cn, yk, yl, ym, sr, si, ke) (nI t) :=
  nm_r (ss_8j t) ⟨cnt + 1, ys_ab_7 ht hc h8 hn hx cnt 0 0 (by omega) (by rw [Nat.zero_add]; exact hp)⟩
variable {ps : Int32 → SY → Prop}
theorem ys_made_loop (ht : t < 4) (hc : cc t = nI cnt) (h8 : cnt ≤ 8) (hn : n ≤ 56) (hx : yn = nI n) {M : Nat} (hM : M ≤ 8)
    (h0 : M = 0 → wY_commit_81 ps (nI t) (nI M) yn yc yr yf R F T N o s cc cr ci cg cn yk yl ym sr si ke)
    (h1 : 0 < M → ss_cf (s t) cr ci (ss_L (ss_at R F T N) 0 n) (8 * t) cnt = true → ps (-2) (yn, yc, yr, yf, R, F, T, N, upd o t 0, s, cc, cr, ci, cg, cn, yk, yl, ym, sr, si, ke))
    (h2 : 0 < M → ss_cf (s t) cr ci (ss_L (ss_at R F T N) 0 n) (8 * t) cnt = false → wY_commit_81 ps (nI t) (nI M) yn yc yr yf R F T N o s cc cr ci cg cn yk yl ym sr si ke) :
    ∀ d i c, i + d = cnt → c + ss_md ci cg (8 * t + i) d = M → wY_commit_17 ps (nI t) yn yc yr yf R F T N o s cc cr ci cg cn yk yl ym sr si ke (d + 1) (nI c) (nI (8 * t + i)) := by
  intro d
  have e8 : 8 * nI t + cc (nI t).toNatClampNeg = nI (8 * t + cnt) := by rw [nI_clamp (by omega), hc, ss_8i]
  have hvt : vp_in (nI t) 4 := vp_in_nI ht (by decide)
  induction d with
  | zero =>
    intro i c hi hp
    rw [ss_md, Nat.add_zero] at hp
    subst hp
    refine ⟨hvt, br_t (by rw [e8]; exact nI_le (by omega) (by omega)) ?_⟩
    by_cases z : c = 0
    · exact br_t (nI_le (b := 0) (by omega) (by decide)) (h0 z)
    · refine br_f (nI_ge (a := 0) (by omega) (by omega)) (ys_conflicts ht hc h8 hn hx ?_)
      cases hb : ss_cf (s t) cr ci (ss_L (ss_at R F T N) 0 n) (8 * t) cnt with
      | true => exact br_f ss_10 ⟨hvt, nm_r (e' := upd o t 0) (by rw [nI_clamp (by omega)]; rfl) (h1 (by omega) hb)⟩
      | false => exact br_t rfl (h2 (by omega) hb)
  | succ d ih =>
    intro i c hi hp
    rw [ss_md] at hp
    have hv : vp_in (nI (8 * t + i)) 32 := vp_in_nI (by omega) (by decide)
    refine ⟨hvt, br_f (by rw [e8]; exact nI_ge (by omega) (by omega)) ⟨hv, ?_⟩⟩
    rw [nI_clamp (n := 8 * t + i) (by omega)]
    refine br_c (fun z => ?_) (fun z => ⟨hv, br_c (fun z2 => ?_) (fun z2 => ?_)⟩)
    · rw [if_pos (Or.inl z), ← Nat.add_assoc] at hp
      exact nm_r (nI_1 c) (nm_r (nI_1 (8 * t + i)) (ih (i + 1) (c + 1) (by omega) hp))
    · rw [if_pos (Or.inr z2), ← Nat.add_assoc] at hp
      exact nm_r (nI_1 c) (nm_r (nI_1 (8 * t + i)) (ih (i + 1) (c + 1) (by omega) hp))
    · rw [if_neg (fun q => q.elim z z2), Nat.zero_add] at hp
      exact nm_r (nI_1 (8 * t + i)) (ih (i + 1) c (by omega) hp)
theorem ys_end_loop (ht : t < 4) (hc : cc t = nI cnt) (h8 : cnt ≤ 8) (hn : n ≤ 56) (hx : yn = nI n) : ∀ (d i : Nat) (T : Nat → Int32), i + d = n → (∀ T' : Nat → Int32, (∀ j, j < i → T' j = T j) → (∀ j, i ≤ j → j < n → ss_at R F T' N j = ss_en yc cr t cnt (ss_at R F T N j)) → ∃ n181 : Nat, wY_commit_181 ps (nI t) yc yr yf n181 (nI (8 * t)) yn R F T' N o s cc cr ci cg cn yk yl ym sr si ke) → wY_commit_127 ps (nI t) yn yc yr yf (d + 1) (nI i) R F T N o s cc cr ci cg cn yk yl ym sr si ke := by
  intro d
  induction d with
  | zero =>
    intro i T hi hp
    exact br_t (by rw [hx]; exact nI_le (by omega) (by omega)) (nm_r (ss_8j t) (hp T (fun _ _ => rfl) (fun j h1 h2 => by omega)))
  | succ d ih =>
    intro i T hi hp
    have hv : vp_in (nI i) 56 := vp_in_nI (by omega) (by decide)
    have g0 : ss_en yc cr t cnt (ss_at R F T N i) = ss_at R F T N i → wY_commit_127 ps (nI t) yn yc yr yf (d + 1) (nI (i + 1)) R F T N o s cc cr ci cg cn yk yl ym sr si ke := by
      intro h
      refine ih (i + 1) T (by omega) (fun T' h1 h2 => hp T' (fun j hj => h1 j (by omega)) (fun j hj1 hj2 => ?_))
      by_cases e : j = i
      · subst e; rw [h]; exact ss_at_ext rfl rfl (h1 j (by omega)) ⟨rfl, rfl, rfl⟩
      · exact h2 j (by omega) hj2
    refine br_f (by rw [hx]; exact nI_ge (by omega) (by omega)) ⟨hv, ?_⟩
    rw [nI_clamp (n := i) (by omega)]
    refine br_c (fun z => ⟨hv, ys_changeOf ht hc h8 (br_c (fun z2 => nm_r (nI_1 i) (g0 ?_)) (fun z2 => ⟨hv, nm_e (nm_r (nI_1 i) (ih (i + 1) (upd T i yc) (by omega) (fun T' h1 h2 => hp T' (fun j hj => ?_) (fun j hj1 hj2 => ?_))))⟩))⟩) (fun z => nm_r (nI_1 i) (g0 ?_))
    · unfold ss_en
      rw [if_neg]
      intro q
      have q2 : ss_in cr (R i) (8 * t) cnt = true := q.2
      rw [(ss_fc_neg (by omega)).mp z2] at q2; exact nomatch q2
    · rw [h1 j (by omega), ss_un (by omega)]
    · by_cases e : j = i
      · subst e
        have z3 : ss_in cr (R j) (8 * t) cnt = true := by
          rw [ss_fc_neg (by omega)] at z2; exact Bool.of_not_eq_false z2
        unfold ss_en
        rw [if_pos ⟨z, z3⟩]
        unfold ss_at
        rw [h1 j (by omega), ss_us]
      · rw [h2 j (by omega) hj2]
        rw [show ss_at R F (upd T i yc) N j = ss_at R F T N j from ss_at_ext rfl rfl (ss_un e) ⟨rfl, rfl, rfl⟩]
    · unfold ss_en
      rw [if_neg]
      intro q
      exact z q.1
theorem ys_add_loop (ht : t < 4) (hc : cc t = nI cnt) (h8 : cnt ≤ 8) : ∀ (d i m : Nat) (R F T N : Nat → Int32), i + d = cnt → m + d ≤ 56 → (∀ (m' : Nat) (R' F' T' N' : Nat → Int32), ss_L (ss_at R' F' T' N') 0 m' = ss_L (ss_at R F T N) 0 m ++ ss_nw yc cr cn cg (8 * t + i) d → ps 0 (nI m', yc, yr, yf, R', F', T', N', o, s, cc, cr, ci, cg, cn, yk, yl, ym, sr, si, ke)) → wY_commit_181 ps (nI t) yc yr yf (d + 1) (nI (8 * t + i)) (nI m) R F T N o s cc cr ci cg cn yk yl ym sr si ke := by
  intro d
  have e8 : 8 * nI t + cc (nI t).toNatClampNeg = nI (8 * t + cnt) := by rw [nI_clamp (by omega), hc, ss_8i]
  have hvt : vp_in (nI t) 4 := vp_in_nI ht (by decide)
  induction d with
  | zero =>
    intro i m R F T N hi hm hp
    exact ⟨hvt, br_t (by rw [e8]; exact nI_le (by omega) (by omega)) (hp m R F T N (by rw [ss_nw, List.append_nil]))⟩
  | succ d ih =>
    intro i m R F T N hi hm hp
    have hv : vp_in (nI (8 * t + i)) 32 := vp_in_nI (by omega) (by decide)
    have hvm : vp_in (nI m) 56 := vp_in_nI (by omega) (by decide)
    have hcm : (nI m).toNatClampNeg = m := nI_clamp (by omega)
    refine ⟨hvt, br_f (by rw [e8]; exact nI_ge (by omega) (by omega)) ⟨hv, ?_⟩⟩
    rw [nI_clamp (n := 8 * t + i) (by omega)]
    refine br_c (fun z => ?_) (fun z => ?_)
    · refine ⟨hv, hvm, nm_r (e' := upd R m (cr (8 * t + i))) (by rw [hcm]) ⟨hvm, nm_r (e' := upd F m yc) (by rw [hcm]) ⟨hvm, nm_r (e' := upd T m 2147483647) (by rw [hcm]) ?_⟩⟩⟩
      have hN := ss_nv_at (R := R) (F := F) (T := T) (N := N) (cr := cr) (cn := cn) (m := m) (j := 8 * t + i) (c := yc) rfl rfl rfl rfl
      have hq := ih (i + 1) (m + 1) _ _ _ _ (by omega) (by omega) (fun m' R' F' T' N' he => hp m' R' F' T' N' (by
        rw [he, ss_nw, if_pos z, ss_Lsnoc, Nat.zero_add, hN.1, List.append_assoc, List.singleton_append]
        rw [ss_Lcon (W := ss_at R F T N) m 0 (fun j _ hj => hN.2 j (by omega))]
        rfl))
      exact ⟨4, br_f (by decide) ⟨by rw [ss_z30 (8 * t + i)]; exact vp_in_nI (by omega) (by decide), by rw [ss_z30 m]; exact vp_in_nI (by omega) (by decide), nm_r (e' := upd N (3 * m) (cn (3 * (8 * t + i)))) (by rw [ss_z30 m, ss_z30 (8 * t + i), nI_clamp (n := 3 * m) (by omega), nI_clamp (n := 3 * (8 * t + i)) (by omega)]) (nm_r (e' := 1) (by decide) (br_f (by decide) ⟨by rw [ss_z31 (8 * t + i)]; exact vp_in_nI (by omega) (by decide), by rw [ss_z31 m]; exact vp_in_nI (by omega) (by decide), nm_r (e' := upd (upd N (3 * m) (cn (3 * (8 * t + i)))) (3 * m + 1) (cn (3 * (8 * t + i) + 1))) (by rw [ss_z31 m, ss_z31 (8 * t + i), nI_clamp (n := 3 * m + 1) (by omega), nI_clamp (n := 3 * (8 * t + i) + 1) (by omega)]) (nm_r (e' := 2) (by decide) (br_f (by decide) ⟨by rw [ss_z32 (8 * t + i)]; exact vp_in_nI (by omega) (by decide), by rw [ss_z32 m]; exact vp_in_nI (by omega) (by decide), nm_r (e' := upd (upd (upd N (3 * m) (cn (3 * (8 * t + i)))) (3 * m + 1) (cn (3 * (8 * t + i) + 1))) (3 * m + 2) (cn (3 * (8 * t + i) + 2))) (by rw [ss_z32 m, ss_z32 (8 * t + i), nI_clamp (n := 3 * m + 2) (by omega), nI_clamp (n := 3 * (8 * t + i) + 2) (by omega)]) (nm_r (e' := 3) (by decide) (br_t (by decide) (nm_r (nI_1 m) (nm_r (nI_1 (8 * t + i)) hq))))⟩))⟩))⟩⟩
    · refine nm_r (nI_1 (8 * t + i)) (ih (i + 1) m R F T N (by omega) (by omega) (fun m' R' F' T' N' he => hp m' R' F' T' N' ?_))
      rw [he, ss_nw, if_neg z]
      rfl
theorem ys_finish {c : Nat} (ht : t < 4) (hc : cc t = nI cnt) (h8 : cnt ≤ 8) (hn : n ≤ 48) (hm : ((ss_L (ss_at R F T N) 0 n).filter (ss_lv (nI c) (upd o t 0) s)).length ≤ 40) {M : Int32} (hM : ¬ M = 0)
    (hp : ∀ (m' : Nat) (R' F' T' N' : Nat → Int32), ss_L (ss_at R' F' T' N') 0 m' = ((ss_L (ss_at R F T N) 0 n).filter (ss_lv (nI c) (upd o t 0) s)).map (ss_en (nI (c + 1)) cr t cnt) ++ ss_nw (nI (c + 1)) cr cn cg (8 * t) cnt → ps 0 (nI m', nI (c + 1), yr, yf, R', F', T', N', upd o t 0, s, cc, cr, ci, cg, cn, yk, yl, ym, sr, si, ke)) :
    wY_commit_98 ps (nI t) M (nI n) (nI c) yr yf R F T N o s cc cr ci cg cn yk yl ym sr si ke := by
  refine ⟨vp_in_nI ht (by decide), nm_r (e' := upd o t 0) (by rw [nI_clamp (by omega)]; rfl) (br_f hM (ys_forget (by omega) (fun m R1 F1 T1 N1 hmn he => ?_)))⟩
  have hlen : m ≤ 40 := by rw [← he, ss_Llen] at hm; exact hm
  refine nm_r (nI_1 c) ⟨m + 1, ys_end_loop ht hc h8 (by omega) rfl m 0 T1 (by omega) (fun T2 _ h2 => ?_)⟩
  refine ⟨cnt + 1, ys_add_loop ht hc h8 cnt 0 m R1 F1 T2 N1 (by omega) (by omega) (fun m' R' F' T' N' he2 => hp m' R' F' T' N' ?_)⟩
  rw [he2, ← he, ss_Lmap]
  rw [ss_Lcon (V := ss_at R1 F1 T2 N1) m 0 (fun j h1 h3 => h2 j h1 (by omega))]
  rfl
end
end
section
theorem ss_pw {α : Type} {r : α → α → Prop} {L : List α} (h : L.Pairwise r) {v w : α} (hv : v ∈ L) (hw : w ∈ L) : v = w ∨ r v w ∨ r w v := by
  induction L with
  | nil => exact absurd hv List.not_mem_nil
  | cons a L ih =>
    rw [List.pairwise_cons] at h
    rcases List.mem_cons.mp hv with rfl | hv'
    · rcases List.mem_cons.mp hw with rfl | hw'
      · exact Or.inl rfl
      · exact Or.inr (Or.inl (h.1 w hw'))
    · rcases List.mem_cons.mp hw with rfl | hw'
      · exact Or.inr (Or.inr (h.1 v hv'))
      · exact ih h.2 hv' hw'
theorem ss_af_iff {st : Int32} {v : ss_V} : ss_af st v = true ↔ st.toInt < v.2.1.toInt ∨ (v.2.2.1.toInt ≠ 2147483647 ∧ st.toInt < v.2.2.1.toInt) := by
  unfold ss_af
  rw [Bool.or_eq_true, decide_eq_true_iff, decide_eq_true_iff]
theorem ss_afw {ck rc : Nat} {L : List ss_V} {st : Int32} {v w : ss_V} (hg : ∀ v ∈ L, ss_gd ck rc v) (hp : L.Pairwise ss_dj) (hk : ck < 2147483647) (hw : w ∈ L) (hh : ss_hd w st = true) (hv : v ∈ L) (hr : v.1 = w.1) (ha : ss_af st v = true) : w.2.2.1.toInt ≠ 2147483647 := by
  rw [ss_hd_iff] at hh
  rw [ss_af_iff] at ha
  obtain ⟨_, g1, g2, g3⟩ := hg v hv
  rcases ss_pw hp hv hw with rfl | h | h
  · rcases ha with ha | ha
    · omega
    · exact ha.1
  · have h' := h hr
    omega
  · have h' := h hr.symm
    omega
theorem ss_cf_iff {st : Int32} {cr ci : Nat → Int32} {L : List ss_V} : ∀ d i, ss_cf st cr ci L i d = true ↔ ∃ j, i ≤ j ∧ j < i + d ∧ ci j = 0 ∧ ∃ v ∈ L, v.1 = cr j ∧ ss_af st v = true := by
  intro d
  have hk : ∀ k, L.any (ss_ck st cr ci k) = true ↔ (ci k = 0 ∧ ∃ v ∈ L, v.1 = cr k ∧ ss_af st v = true) := by
    intro k
    rw [List.any_eq_true]
    constructor
    · intro ⟨v, hv, h⟩
      unfold ss_ck at h
      rw [Bool.and_eq_true, Bool.and_eq_true, decide_eq_true_iff, decide_eq_true_iff] at h
      exact ⟨h.1, v, hv, h.2⟩
    · intro ⟨h, v, hv, h2⟩
      refine ⟨v, hv, ?_⟩
      unfold ss_ck
      rw [Bool.and_eq_true, Bool.and_eq_true, decide_eq_true_iff, decide_eq_true_iff]
      exact ⟨h, h2⟩
  induction d with
  | zero => intro i; exact ⟨fun h => Bool.noConfusion h, fun ⟨j, h1, h2, _⟩ => by omega⟩
  | succ d ih =>
    intro i
    rw [ss_cf, Bool.or_eq_true, ih, hk]
    constructor
    · rintro (h | ⟨j, h1, h2, h3⟩)
      · exact ⟨i, by omega, by omega, h⟩
      · exact ⟨j, by omega, by omega, h3⟩
    · intro ⟨j, h1, h2, h3⟩
      by_cases e : j = i
      · subst e; exact Or.inl h3
      · exact Or.inr ⟨j, by omega, by omega, h3⟩
theorem ss_hc_iff {ci cg : Nat → Int32} : ∀ d i, ss_hc ci cg i d = true ↔ ∃ j, i ≤ j ∧ j < i + d ∧ (ci j = 0 ∨ cg j = 0) := by
  intro d
  induction d with
  | zero => intro i; exact ⟨fun h => Bool.noConfusion h, fun ⟨j, h1, h2, _⟩ => by omega⟩
  | succ d ih =>
    intro i
    rw [ss_hc, Bool.or_eq_true, ih, decide_eq_true_iff]
    constructor
    · rintro (h | ⟨j, h1, h2, h3⟩)
      · exact ⟨i, by omega, by omega, h⟩
      · exact ⟨j, by omega, by omega, h3⟩
    · intro ⟨j, h1, h2, h3⟩
      by_cases e : j = i
      · subst e; exact Or.inl h3
      · exact Or.inr ⟨j, by omega, by omega, h3⟩
theorem ss_cf_hc {st : Int32} {cr ci cg : Nat → Int32} {L : List ss_V} {i d : Nat} (h : ss_cf st cr ci L i d = true) : ss_hc ci cg i d = true := by
  obtain ⟨j, h1, h2, h3, _⟩ := (ss_cf_iff d i).mp h
  exact (ss_hc_iff d i).mpr ⟨j, h1, h2, Or.inl h3⟩
theorem ss_over {k ck rc t cnt : Nat} {o s cc cr ci : Nat → Int32} {LX LY : List ss_V} (h : ss_I k ck rc o s cc cr ci LX LY) (hk : ck < 2147483647) (ht : t < 4) (ho : ¬ o t = 0) (hc : ss_n cc t = cnt) :
    LX.any (fun v => ss_af (s t) v && ss_in cr v.1 (8 * t) cnt) = ss_cf (s t) cr ci LY (8 * t) cnt := by
  obtain ⟨h1, h2, h3, h4, ⟨a1, a2, a3⟩, ⟨b1, b2, b3⟩, c1, c2, c3, c4, c5⟩ := h
  refine ss_bool ?_
  rw [List.any_eq_true, ss_cf_iff]
  constructor
  · intro ⟨v, hv, h5⟩
    rw [Bool.and_eq_true, ss_in_iff] at h5
    obtain ⟨ha, j, hj1, hj2, hj⟩ := h5
    have hon : ss_on o cc t (j - 8 * t) := ⟨ht, ho, by omega⟩
    have ej : 8 * t + (j - 8 * t) = j := by omega
    have hown : ci j = 0 := by
      refine Classical.byContradiction (fun z => ?_)
      have := a3 v hv t (j - 8 * t) hon
      rw [ej] at this
      exact this z hj.symm
    have h5 := c5 t (j - 8 * t) hon
    rw [ej] at h5
    obtain ⟨w, hw, hw1, hw2⟩ := h5 hown
    have hne := ss_afw a1 a2 hk hw hw2 hv (by rw [hw1, hj]) ha
    refine ⟨j, hj1, hj2, hown, w, ss_tr h3 hw (ss_lv_t ht ho hw2), hw1, ss_af_iff.mpr (Or.inr ⟨hne, (ss_hd_iff.mp hw2).2⟩)⟩
  · intro ⟨j, hj1, hj2, hown, v, hv, hv1, ha⟩
    have hon : ss_on o cc t (j - 8 * t) := ⟨ht, ho, by omega⟩
    have ej : 8 * t + (j - 8 * t) = j := by omega
    have h5 := c5 t (j - 8 * t) hon
    rw [ej] at h5
    obtain ⟨w, hw, hw1, hw2⟩ := h5 hown
    have hne := ss_afw b1 b2 hk (ss_tr h3 hw (ss_lv_t ht ho hw2)) hw2 hv (by rw [hw1, hv1]) ha
    refine ⟨w, hw, ?_⟩
    rw [Bool.and_eq_true, ss_in_iff]
    exact ⟨ss_af_iff.mpr (Or.inr ⟨hne, (ss_hd_iff.mp hw2).2⟩), j, hj1, hj2, hw1.symm⟩
theorem ss_en_1 {c : Int32} {cr : Nat → Int32} {t cnt : Nat} {v : ss_V} : (ss_en c cr t cnt v).1 = v.1 := by
  unfold ss_en; split <;> rfl
theorem ss_en_2 {c : Int32} {cr : Nat → Int32} {t cnt : Nat} {v : ss_V} : (ss_en c cr t cnt v).2.1 = v.2.1 := by
  unfold ss_en; split <;> rfl
theorem ss_en_3 {c : Int32} {cr : Nat → Int32} {t cnt : Nat} {v : ss_V} : (v.2.2.1.toInt = 2147483647 ∧ ss_in cr v.1 (8 * t) cnt = true ∧ (ss_en c cr t cnt v).2.2.1.toInt = c.toInt) ∨ (¬ (v.2.2.1.toInt = 2147483647 ∧ ss_in cr v.1 (8 * t) cnt = true) ∧ (ss_en c cr t cnt v).2.2.1.toInt = v.2.2.1.toInt) := by
  unfold ss_en
  split
  · rename_i h
    rw [ss_eq, ss_ev] at h
    exact Or.inl ⟨h.1, h.2, rfl⟩
  · rename_i h
    rw [ss_eq, ss_ev] at h
    exact Or.inr ⟨h, rfl⟩
theorem ss_en_hd {ck rc t cnt : Nat} {cr : Nat → Int32} {v : ss_V} {x : Int32} (hk : ck + 1 < 2147483647) (hx : x.toInt ≤ (ck : Int)) : ss_hd (ss_en (nI (ck + 1)) cr t cnt v) x = ss_hd v x := by
  refine ss_bool ?_
  rw [ss_hd_iff, ss_hd_iff, ss_en_2]
  have e1 : (nI (ck + 1)).toInt = ((ck + 1 : Nat) : Int) := nI_toInt (by omega)
  rcases ss_en_3 (c := nI (ck + 1)) (cr := cr) (t := t) (cnt := cnt) (v := v) with ⟨g1, _, g3⟩ | ⟨_, g3⟩
  · rw [g3, e1, g1]; omega
  · rw [g3]
theorem ss_bh_lv {ck rc t cnt : Nat} {o s cc cr ci : Nat → Int32} {L : List ss_V} {v : ss_V} (hk : ck + 1 < 2147483647) (ht : t < 4) (hg : ss_gd ck rc v) (hC : ss_cv ck rc o s cc cr ci L) :
    ss_lv (nI (ck + 1)) (upd o t 0) s (ss_en (nI (ck + 1)) cr t cnt v) = ss_bh o s cr t cnt v := by
  have e1 : (nI (ck + 1)).toInt = ((ck + 1 : Nat) : Int) := nI_toInt (by omega)
  obtain ⟨g1, g2, g3, g4⟩ := hg
  refine ss_bool ?_
  rw [ss_lv_iff]
  unfold ss_bh
  rw [Bool.or_eq_true, Bool.and_eq_true, decide_eq_true_iff, ss_sn_iff, ss_hd_iff, ss_en_2, ss_eq, ss_ev]
  have hA : (v.2.1.toInt ≤ (nI (ck + 1)).toInt ∧ (nI (ck + 1)).toInt < (ss_en (nI (ck + 1)) cr t cnt v).2.2.1.toInt) ↔ (v.2.2.1.toInt = 2147483647 ∧ (!ss_in cr v.1 (8 * t) cnt) = true) := by
    rw [e1]
    rcases ss_en_3 (c := nI (ck + 1)) (cr := cr) (t := t) (cnt := cnt) (v := v) with ⟨q1, q2, q3⟩ | ⟨q2, q3⟩
    · rw [q3, e1, q2]
      constructor
      · intro h; omega
      · intro h; exact nomatch h.2
    · rw [q3]
      cases hb : ss_in cr v.1 (8 * t) cnt with
      | true =>
        rw [hb] at q2
        constructor
        · intro h
          rcases g4 with g4 | g4
          · exact absurd ⟨g4, rfl⟩ q2
          · omega
        · intro h; exact nomatch h.2
      | false =>
        constructor
        · intro h
          rcases g4 with g4 | g4
          · exact ⟨g4, rfl⟩
          · omega
        · intro h; have := h.1; omega
  have hB : (∃ u, u < 4 ∧ ¬ (upd o t 0) u = 0 ∧ ss_hd (ss_en (nI (ck + 1)) cr t cnt v) (s u) = true) ↔ (∃ u, 0 ≤ u ∧ u < 0 + 4 ∧ ¬ o u = 0 ∧ ¬ nI u = nI t ∧ ss_hd v (s u) = true) := by
    constructor
    · intro ⟨u, hu, h5, h6⟩
      have e : u ≠ t := fun e => by subst e; rw [ss_us] at h5; exact h5 rfl
      rw [ss_un e] at h5
      rw [ss_en_hd (rc := rc) hk (hC.1 u hu h5).2.2] at h6
      exact ⟨u, by omega, by omega, h5, fun z => e ((nI_eq (by omega) (by omega)).mp z), h6⟩
    · intro ⟨u, _, hu, h5, h7, h6⟩
      have e : u ≠ t := fun e => h7 (by rw [e])
      refine ⟨u, by omega, by rw [ss_un e]; exact h5, ?_⟩
      rw [ss_en_hd (rc := rc) hk (hC.1 u (by omega) h5).2.2]
      exact h6
  rw [hA, hB]
theorem ss_bh_tc {ck rc t cnt : Nat} {o s cr : Nat → Int32} {v : ss_V} (hk : ck + 1 < 2147483647) (hg : ss_gd ck rc v) (h : ss_bh o s cr t cnt v = true) : ss_lv (nI ck) (upd o t 0) s v = true := by
  obtain ⟨g1, g2, g3, g4⟩ := hg
  unfold ss_bh at h
  rw [Bool.or_eq_true, Bool.and_eq_true, decide_eq_true_iff, ss_sn_iff, ss_eq, ss_ev] at h
  rw [ss_lv_iff, ss_hd_iff, nI_toInt (by omega)]
  rcases h with h | ⟨u, _, hu, h5, h7, h6⟩
  · left
    have := h.1
    omega
  · have e : u ≠ t := fun e => h7 (by rw [e])
    exact Or.inr ⟨u, by omega, by rw [ss_un e]; exact h5, h6⟩
theorem ss_tc_lv {ck t : Nat} {o s : Nat → Int32} {v : ss_V} (h : ss_lv (nI ck) (upd o t 0) s v = true) : ss_lv (nI ck) o s v = true := by
  rw [ss_lv_iff] at h
  rw [ss_lv_iff]
  rcases h with h | ⟨u, hu, h5, h6⟩
  · exact Or.inl h
  · by_cases e : u = t
    · subst e; rw [ss_us] at h5; exact absurd rfl h5
    · rw [ss_un e] at h5; exact Or.inr ⟨u, hu, h5, h6⟩
theorem ss_nw_mem {c : Int32} {cr cn cg : Nat → Int32} {w : ss_V} : ∀ d i, w ∈ ss_nw c cr cn cg i d → ∃ j, i ≤ j ∧ j < i + d ∧ w = ss_nv c cr cn j := by
  intro d
  induction d with
  | zero => intro i h; exact absurd h List.not_mem_nil
  | succ d ih =>
    intro i h
    rw [ss_nw] at h
    by_cases z : cg i = 0
    · rw [if_pos z] at h
      rcases List.mem_cons.mp h with h | h
      · exact ⟨i, by omega, by omega, h⟩
      · obtain ⟨j, h1, h2, h3⟩ := ih (i + 1) h
        exact ⟨j, by omega, by omega, h3⟩
    · rw [if_neg z] at h
      obtain ⟨j, h1, h2, h3⟩ := ih (i + 1) h
      exact ⟨j, by omega, by omega, h3⟩
theorem ss_nw_pw {c : Int32} {cr cn cg : Nat → Int32} : ∀ d i, (∀ a b, i ≤ a → a < i + d → i ≤ b → b < i + d → a ≠ b → ¬ cr a = cr b) → (ss_nw c cr cn cg i d).Pairwise ss_dj := by
  intro d
  induction d with
  | zero => intro i _; exact List.Pairwise.nil
  | succ d ih =>
    intro i h
    have h' := ih (i + 1) (fun a b h1 h2 h3 h4 => h a b (by omega) (by omega) (by omega) (by omega))
    rw [ss_nw]
    by_cases z : cg i = 0
    · rw [if_pos z]
      refine List.Pairwise.cons (fun w hw e => ?_) h'
      obtain ⟨j, h1, h2, rfl⟩ := ss_nw_mem d (i + 1) hw
      exact absurd e (h i j (by omega) (by omega) (by omega) (by omega) (by omega))
    · rw [if_neg z]; exact h'
theorem ss_ok_new {ck rc t cnt : Nat} {o s cc cr ci cn cg : Nat → Int32} {L E LX : List ss_V} (hk : ck + 1 < 2147483647) (ht : t < 4) (ho : ¬ o t = 0) (hc : ss_n cc t = cnt) (hL : ss_ok ck rc o cc cr ci L) (hC : ss_cv ck rc o s cc cr ci LX)
    (hw : ∀ i, ss_on o cc t i → ci (8 * t + i) = 0 → ∃ w ∈ L, w.1 = cr (8 * t + i))
    (hE : ∀ e ∈ E, ∃ v ∈ L, e = ss_en (nI (ck + 1)) cr t cnt v) (hP : E.Pairwise ss_dj) :
    ss_ok (ck + 1) rc (upd o t 0) cc cr ci (E ++ ss_nw (nI (ck + 1)) cr cn cg (8 * t) cnt) := by
  have e1 : (nI (ck + 1)).toInt = ((ck + 1 : Nat) : Int) := nI_toInt (by omega)
  obtain ⟨a1, a2, a3⟩ := hL
  obtain ⟨c1, c2, c3, c4, c5⟩ := hC
  have hon : ∀ u i, ss_on (upd o t 0) cc u i → u ≠ t ∧ ss_on o cc u i := by
    intro u i ⟨a, b, c⟩
    by_cases e : u = t
    · subst e; rw [ss_us] at b; exact absurd rfl b
    · rw [ss_un e] at b; exact ⟨e, a, b, c⟩
  refine ⟨fun x hx => ?_, ?_, fun x hx u i hu hz => ?_⟩
  · rcases List.mem_append.mp hx with hx | hx
    · obtain ⟨v, hv, rfl⟩ := hE x hx
      obtain ⟨g1, g2, g3, g4⟩ := a1 v hv
      refine ⟨by rw [ss_en_1]; exact g1, by rw [ss_en_2]; omega, ?_, ?_⟩
      · rw [ss_en_2]
        rcases ss_en_3 (c := nI (ck + 1)) (cr := cr) (t := t) (cnt := cnt) (v := v) with ⟨_, _, q⟩ | ⟨_, q⟩
        · rw [q, e1]; omega
        · rw [q]; exact g3
      · rcases ss_en_3 (c := nI (ck + 1)) (cr := cr) (t := t) (cnt := cnt) (v := v) with ⟨_, _, q⟩ | ⟨_, q⟩
        · rw [q, e1]; omega
        · rw [q]; omega
    · obtain ⟨j, h1, h2, rfl⟩ := ss_nw_mem cnt (8 * t) hx
      have h9 := c2 t (j - 8 * t) ⟨ht, ho, by omega⟩
      rw [show 8 * t + (j - 8 * t) = j from by omega] at h9
      refine ⟨h9, ?_, ?_, Or.inl ss_ev⟩
      · show (nI (ck + 1)).toInt ≤ _
        omega
      · show (nI (ck + 1)).toInt < (2147483647 : Int32).toInt
        rw [ss_ev]; omega
  · refine List.pairwise_append.mpr ⟨hP, ss_nw_pw cnt (8 * t) (fun a b h1 h2 h3 h4 hne => ?_), fun x hx y hy e => ?_⟩
    · have h9 := c3 t (a - 8 * t) (b - 8 * t) ⟨ht, ho, by omega⟩ ⟨ht, ho, by omega⟩ (by omega)
      rw [show 8 * t + (a - 8 * t) = a from by omega, show 8 * t + (b - 8 * t) = b from by omega] at h9
      exact h9
    · obtain ⟨v, hv, rfl⟩ := hE x hx
      obtain ⟨j, h1, h2, rfl⟩ := ss_nw_mem cnt (8 * t) hy
      left
      show _ ≤ (nI (ck + 1)).toInt
      rw [ss_en_1] at e
      have hin : ss_in cr v.1 (8 * t) cnt = true := (ss_in_iff cnt (8 * t)).mpr ⟨j, h1, h2, e.symm⟩
      obtain ⟨g1, g2, g3, g4⟩ := a1 v hv
      rcases ss_en_3 (c := nI (ck + 1)) (cr := cr) (t := t) (cnt := cnt) (v := v) with ⟨_, _, q⟩ | ⟨q2, q⟩
      · rw [q]; exact Int.le_refl _
      · rw [q]
        rcases g4 with g4 | g4
        · exact absurd ⟨g4, hin⟩ q2
        · omega
  · obtain ⟨hne, hu'⟩ := hon u i hu
    rcases List.mem_append.mp hx with hx | hx
    · obtain ⟨v, hv, rfl⟩ := hE x hx
      rw [ss_en_1]
      exact a3 v hv u i hu' hz
    · obtain ⟨j, h1, h2, rfl⟩ := ss_nw_mem cnt (8 * t) hx
      show ¬ cr j = cr (8 * u + i)
      have hj : ss_on o cc t (j - 8 * t) := ⟨ht, ho, by omega⟩
      have ej : 8 * t + (j - 8 * t) = j := by omega
      by_cases hown : ci j = 0
      · have h9 := hw (j - 8 * t) hj
        rw [ej] at h9
        obtain ⟨w, hw1, hw2⟩ := h9 hown
        rw [← hw2]
        exact a3 w hw1 u i hu' hz
      · have h9 := c4 t (j - 8 * t) u i hj hu'
        rw [ej] at h9
        exact h9 hown hz (fun e => hne e.symm)
theorem ss_en_pw {c : Int32} {cr : Nat → Int32} {t cnt : Nat} {L : List ss_V} (hc : c.toInt ≤ 2147483647) (h : L.Pairwise ss_dj) : (L.map (ss_en c cr t cnt)).Pairwise ss_dj := by
  rw [List.pairwise_map]
  refine h.imp (fun {v w} hd e => ?_)
  rw [ss_en_1, ss_en_1] at e
  have hle : ∀ v : ss_V, (ss_en c cr t cnt v).2.2.1.toInt ≤ v.2.2.1.toInt := by
    intro v
    rcases ss_en_3 (c := c) (cr := cr) (t := t) (cnt := cnt) (v := v) with ⟨q1, _, q⟩ | ⟨_, q⟩
    · rw [q, q1]; exact hc
    · rw [q]; exact Int.le_refl _
  have h1 := hle v
  have h2 := hle w
  rw [ss_en_2, ss_en_2]
  have := hd e
  omega
theorem ss_I_commit {k ck rc t cnt : Nat} {o s cc cr ci cn cg : Nat → Int32} {LX LY EX EY : List ss_V} (h : ss_I k ck rc o s cc cr ci LX LY) (hk : ck + 1 < 2147483647) (ht : t < 4) (ho : ¬ o t = 0) (hc : ss_n cc t = cnt)
    (h8 : cnt ≤ 8) (hcnt : LX.countP (ss_bh o s cr t cnt) + ss_ng cg (8 * t) cnt ≤ 40)
    (hEX : EX = (LX.map (ss_en (nI (ck + 1)) cr t cnt)).filter (ss_lv (nI (ck + 1)) (upd o t 0) s))
    (hEY : EY = (LY.filter (ss_lv (nI ck) (upd o t 0) s)).map (ss_en (nI (ck + 1)) cr t cnt)) :
    ss_I (k + 6) (ck + 1) rc (upd o t 0) s cc cr ci (EX ++ ss_nw (nI (ck + 1)) cr cn cg (8 * t) cnt) (EY ++ ss_nw (nI (ck + 1)) cr cn cg (8 * t) cnt) ∧
    EX.length + ss_ng cg (8 * t) cnt ≤ 40 ∧ EY.length ≤ 40 := by
  have e1 : (nI (ck + 1)).toInt = ((ck + 1 : Nat) : Int) := nI_toInt (by omega)
  obtain ⟨h1, h2, h3, h4, hX, hY, hC⟩ := h
  have hbX : ∀ v ∈ LX, ss_lv (nI (ck + 1)) (upd o t 0) s (ss_en (nI (ck + 1)) cr t cnt v) = ss_bh o s cr t cnt v := fun v hv => ss_bh_lv hk ht (hX.1 v hv) hC
  have hbY : ∀ v ∈ LY, ss_lv (nI (ck + 1)) (upd o t 0) s (ss_en (nI (ck + 1)) cr t cnt v) = ss_bh o s cr t cnt v := fun v hv => ss_bh_lv hk ht (hY.1 v hv) hC
  have hEX2 : EX = (LX.filter (ss_bh o s cr t cnt)).map (ss_en (nI (ck + 1)) cr t cnt) := by
    rw [hEX, List.filter_map]
    congr 1
    exact List.filter_congr hbX
  have hfb : LX.filter (ss_bh o s cr t cnt) = LY.filter (ss_bh o s cr t cnt) :=
    ss_flt h3 (fun v hv hb => ss_tc_lv (ss_bh_tc hk (hX.1 v hv) hb)) (fun v hv hb => ss_tc_lv (ss_bh_tc hk (hY.1 v hv) hb))
  have hEYf : EY.filter (ss_lv (nI (ck + 1)) (upd o t 0) s) = EX := by
    rw [hEX2, hfb, hEY, List.filter_map, List.filter_filter]
    congr 1
    refine List.filter_congr (fun v hv => ?_)
    show (ss_lv (nI (ck + 1)) (upd o t 0) s (ss_en (nI (ck + 1)) cr t cnt v) && ss_lv (nI ck) (upd o t 0) s v) = ss_bh o s cr t cnt v
    rw [hbY v hv]
    cases hb : ss_bh o s cr t cnt v with
    | false => rfl
    | true => rw [ss_bh_tc hk (hY.1 v hv) hb]; rfl
  have hEXf : EX.filter (ss_lv (nI (ck + 1)) (upd o t 0) s) = EX := by
    rw [hEX, List.filter_filter]
    refine List.filter_congr (fun v _ => ?_)
    rw [Bool.and_self]
  have hXl : EX.length + ss_ng cg (8 * t) cnt ≤ 40 := by
    rw [hEX2, List.length_map, ← List.countP_eq_length_filter]
    exact hcnt
  have hYl : EY.length ≤ 40 := by
    rw [hEY, List.length_map]
    rw [← List.countP_eq_length_filter]
    rw [← List.countP_eq_length_filter] at h4
    exact Nat.le_trans (List.countP_mono_left (fun v _ => ss_tc_lv)) h4
  have hEXm : ∀ e ∈ EX, ∃ v ∈ LX, e = ss_en (nI (ck + 1)) cr t cnt v := by
    intro e he
    rw [hEX2] at he
    obtain ⟨v, hv, rfl⟩ := List.mem_map.mp he
    exact ⟨v, (List.mem_filter.mp hv).1, rfl⟩
  have hEYm : ∀ e ∈ EY, ∃ v ∈ LY, e = ss_en (nI (ck + 1)) cr t cnt v := by
    intro e he
    rw [hEY] at he
    obtain ⟨v, hv, rfl⟩ := List.mem_map.mp he
    exact ⟨v, (List.mem_filter.mp hv).1, rfl⟩
  have hlast : ((EX ++ ss_nw (nI (ck + 1)) cr cn cg (8 * t) cnt).filter (ss_lv (nI (ck + 1)) (upd o t 0) s)) = ((EY ++ ss_nw (nI (ck + 1)) cr cn cg (8 * t) cnt).filter (ss_lv (nI (ck + 1)) (upd o t 0) s)) := by
    rw [List.filter_append, List.filter_append, hEXf, hEYf]
  refine ⟨⟨by omega, by omega, hlast, ?_, ?_, ?_, ?_⟩, hXl, hYl⟩
  · rw [← hlast]
    refine Nat.le_trans (List.length_filter_le _ _) ?_
    rw [List.length_append, ss_nw_len]
    exact hXl
  · refine ss_ok_new hk ht ho hc hX hC (fun i hi hz => ?_) hEXm ?_
    · obtain ⟨w, hw, hw1, _⟩ := hC.2.2.2.2 t i hi hz
      exact ⟨w, hw, hw1⟩
    · rw [hEX2]
      exact ss_en_pw (by omega) (hX.2.1.sublist List.filter_sublist)
  · refine ss_ok_new hk ht ho hc hY hC (fun i hi hz => ?_) hEYm ?_
    · obtain ⟨w, hw, hw1, hw2⟩ := hC.2.2.2.2 t i hi hz
      exact ⟨w, ss_tr h3 hw (ss_lv_t ht ho hw2), hw1⟩
    · rw [hEY]
      exact ss_en_pw (by omega) (hY.2.1.sublist List.filter_sublist)
  · obtain ⟨c1, c2, c3, c4, c5⟩ := hC
    have hon : ∀ u i, ss_on (upd o t 0) cc u i → u ≠ t ∧ ss_on o cc u i := by
      intro u i ⟨a, b, c⟩
      by_cases e : u = t
      · subst e; rw [ss_us] at b; exact absurd rfl b
      · rw [ss_un e] at b; exact ⟨e, a, b, c⟩
    refine ⟨?_, fun u i hu => c2 u i (hon u i hu).2, fun u i j hu hj => c3 u i j (hon u i hu).2 (hon u j hj).2, fun u i u' j hu hj => c4 u i u' j (hon u i hu).2 (hon u' j hj).2, ?_⟩
    · intro u hu h5
      by_cases e : u = t
      · subst e; rw [ss_us] at h5; exact absurd rfl h5
      · rw [ss_un e] at h5
        obtain ⟨q1, q2, q3⟩ := c1 u hu h5
        exact ⟨q1, q2, by omega⟩
    · intro u i hu hz
      obtain ⟨hne, hu'⟩ := hon u i hu
      obtain ⟨w, hw, hw1, hw2⟩ := c5 u i hu' hz
      have hhd : ss_hd (ss_en (nI (ck + 1)) cr t cnt w) (s u) = true := by
        rw [ss_en_hd (rc := rc) hk (c1 u hu'.1 hu'.2.1).2.2]; exact hw2
      refine ⟨ss_en (nI (ck + 1)) cr t cnt w, List.mem_append.mpr (Or.inl ?_), by rw [ss_en_1]; exact hw1, hhd⟩
      rw [hEX]
      exact List.mem_filter.mpr ⟨List.mem_map.mpr ⟨w, hw, rfl⟩, ss_lv_t hu.1 hu.2.1 hhd⟩
theorem i_vc_commit {k : Nat} {u : SX} {v : SY} (I : i_Rel k u v) (hk : k + 6 ≤ 3072) (v1 : Int32) : wpX_commit (fun r u' => wpY_commit (fun r' v' => r' = r ∧ i_Rel (k + 6) u' v') v v1) u v1 := by
  obtain ⟨ck, rc, nx, ny, xf, yf, R, F, T, N, VR, VF, VT, VN, o, s, cc, cr, ci, cg, cn, ws, wk, wl, wm, fr, fi, yk, yl, ym, sr, si, ke, rfl, rfl, h1, h2, h3, h4⟩ := I
  unfold wpX_commit wpY_commit; dsimp only
  by_cases ho : ss_op o v1
  · refine xs_isOpen_t ho (br_f ss_10 ?_)
    have ho' := ho
    obtain ⟨t, ht, rfl, hot⟩ := ho'
    obtain ⟨hcc, h8, _⟩ := h3.2.2.2.2.2.2.1 t ht hot
    have hs : ∃ cnt, ss_n cc t = cnt := ⟨_, rfl⟩
    obtain ⟨cnt, hs⟩ := hs
    rw [hs] at hcc h8
    have hckk : ck ≤ k := h3.1
    have hvt : vp_in (nI t) 4 := vp_in_nI ht (by decide)
    have hct : (nI t).toNatClampNeg = t := nI_clamp (by omega)
    have hov := ss_over h3 (by omega) ht hot hs
    have hmd := ss_md_hc ci cg cnt (8 * t)
    have hml := ss_md_le ci cg cnt (8 * t)
    refine xs_isOvertaken ht hcc h8 h1 rfl ?_
    rw [hov]
    cases hb : ss_cf (s t) cr ci (ss_L (ss_at VR VF VT VN) 0 ny) (8 * t) cnt with
    | true =>
      have hpos : 0 < ss_md ci cg (8 * t) cnt := hmd.mpr (ss_cf_hc hb)
      refine br_f ss_10 ⟨hvt, nm_r (e' := upd o t 0) (by rw [hct]; rfl) (ys_isOpen_t ho (br_f ss_10 (nm_r (ss_8j t) ⟨cnt + 1, ys_made_loop ht hcc h8 (by omega) rfl (M := ss_md ci cg (8 * t) cnt) (by omega) (fun z => ?_) (fun _ _ => ?_) (fun _ z => ?_) cnt 0 0 (by omega) (by rw [Nat.zero_add]; rfl)⟩)))⟩
      · omega
      · exact ⟨rfl, ss_mk h1 h2 (ss_I_up (ss_I_close h3)) h4⟩
      · rw [hb] at z; exact nomatch z
    | false =>
      refine br_t rfl (xs_hasChanges ht hcc h8 ?_)
      cases hh : ss_hc ci cg (8 * t) cnt with
      | false =>
        have hz : ss_md ci cg (8 * t) cnt = 0 := Nat.eq_zero_of_not_pos (fun q => by rw [hmd, hh] at q; exact nomatch q)
        refine br_t rfl ⟨hvt, nm_r (e' := upd o t 0) (by rw [hct]; rfl) (ys_isOpen_t ho (br_f ss_10 (nm_r (ss_8j t) ⟨cnt + 1, ys_made_loop ht hcc h8 (by omega) rfl (M := ss_md ci cg (8 * t) cnt) (by omega) (fun z => ?_) (fun z _ => ?_) (fun z _ => ?_) cnt 0 0 (by omega) (by rw [Nat.zero_add]; rfl)⟩)))⟩
        · rw [z]
          refine br_t (nI_le (b := 0) (by omega) (by decide)) ⟨hvt, nm_r (e' := upd o t 0) (by rw [hct]; rfl) (br_t rfl ⟨rfl, ?_⟩)⟩
          exact ss_mk h1 h2 (ss_I_up (ss_I_close h3)) h4
        · omega
        · omega
      | true =>
        have hpos : 0 < ss_md ci cg (8 * t) cnt := hmd.mpr hh
        have hbX : ∀ v ∈ ss_L (ss_at R F T N) 0 nx, ss_bh o s cr t cnt v = true → ss_lv (nI ck) o s v = true := fun v hv hb => ss_tc_lv (ss_bh_tc (by omega) (h3.2.2.2.2.1.1 v hv) hb)
        have hbY : ∀ v ∈ ss_L (ss_at VR VF VT VN) 0 ny, ss_bh o s cr t cnt v = true → ss_lv (nI ck) o s v = true := fun v hv hb => ss_tc_lv (ss_bh_tc (by omega) (h3.2.2.2.2.2.1.1 v hv) hb)
        have hce : (ss_L (ss_at R F T N) 0 nx).countP (ss_bh o s cr t cnt) = (ss_L (ss_at VR VF VT VN) 0 ny).countP (ss_bh o s cr t cnt) := ss_cnt (ss_flt h3.2.2.1 hbX hbY)
        have hle : (ss_L (ss_at R F T N) 0 nx).countP (ss_bh o s cr t cnt) ≤ 40 := by
          have := List.countP_le_length (p := ss_bh o s cr t cnt) (l := ss_L (ss_at R F T N) 0 nx)
          rw [ss_Llen] at this; omega
        have hng := ss_ng_le cg cnt (8 * t)
        refine br_f ss_10 (xs_countLiveBehind ht hcc h8 h1 rfl ?_)
        by_cases hfull : (ss_L (ss_at R F T N) 0 nx).countP (ss_bh o s cr t cnt) + ss_ng cg (8 * t) cnt ≤ 40
        · refine br_t (nI_le (b := 40) hfull (by decide)) ⟨hvt, nm_r (e' := upd o t 0) (by rw [hct]; rfl) (nm_r (nI_1 ck) (xs_endChanged ht hcc h8 h1 rfl (fun T' heT => ?_)))⟩
          dsimp only
          refine xs_dropDead h1 (fun m R1 F1 T1 N1 hm he => ?_)
          dsimp only
          rw [heT] at he
          obtain ⟨hI, hl1, hl2⟩ := ss_I_commit (cn := cn) (cg := cg) h3 (by omega) ht hot hs h8 hfull rfl rfl
          rw [← he] at hI hl1
          rw [ss_Llen] at hl1
          refine xs_addNew ht hcc h8 hl1 (fun m' R2 F2 T2 N2 he2 => ?_)
          dsimp only
          refine ys_isOpen_t ho (br_f ss_10 (nm_r (ss_8j t) ⟨cnt + 1, ys_made_loop ht hcc h8 (by omega) rfl (M := ss_md ci cg (8 * t) cnt) (by omega) (fun z => ?_) (fun _ z => ?_) (fun _ _ => ?_) cnt 0 0 (by omega) (by rw [Nat.zero_add]; rfl)⟩))
          · omega
          · rw [hb] at z; exact nomatch z
          · refine br_f (nI_nle hpos (by omega)) (ys_aliveBehind ht hcc h8 (by omega) rfl ?_)
            refine br_t (nI_le (b := 40) (by rw [← hce]; omega) (by decide)) ?_
            refine ys_finish ht hcc h8 h2 ?_ (nI_ne0 hpos (by omega)) (fun m3 R3 F3 T3 N3 he3 => ⟨rfl, ?_⟩)
            · rw [List.length_map] at hl2; exact hl2
            · have hm' : m' ≤ 40 := by
                have := congrArg List.length he2
                rw [ss_Llen, List.length_append, ss_Llen, ss_nw_len] at this
                omega
              have hm3 : m3 ≤ 48 := by
                have := congrArg List.length he3
                rw [ss_Llen, List.length_append, ss_nw_len] at this
                omega
              rw [← he2, ← he3] at hI
              exact ss_mk hm' hm3 hI h4
        · refine br_f (nI_ge (a := 40) (by omega) (by omega)) (ys_isOpen_t ho (br_f ss_10 (nm_r (ss_8j t) ⟨cnt + 1, ys_made_loop ht hcc h8 (by omega) rfl (M := ss_md ci cg (8 * t) cnt) (by omega) (fun z => ?_) (fun _ z => ?_) (fun _ _ => ?_) cnt 0 0 (by omega) (by rw [Nat.zero_add]; rfl)⟩)))
          · omega
          · rw [hb] at z; exact nomatch z
          · refine br_f (nI_nle hpos (by omega)) (ys_aliveBehind ht hcc h8 (by omega) rfl ?_)
            refine br_f (nI_ge (a := 40) (by rw [← hce]; omega) (by rw [← hce]; omega)) ⟨rfl, ss_mk h1 h2 (ss_I_up h3) h4⟩
  · exact xs_isOpen_f ho (br_t rfl (ys_isOpen_f ho (br_t rfl ⟨rfl, ss_mk h1 h2 (ss_I_up h3) h4⟩)))
end
section
def ss_pX (ws wk wl wm : Nat → Int32) (q : ss_F) : Nat → Nat → Bool
  | _, 0 => true
  | i, d + 1 => decide (ws i = 0 ∨ (¬ ss_gt q (wk i).toNatClampNeg < wl i ∧ ss_gt q (wk i).toNatClampNeg ≤ wm i)) && ss_pX ws wk wl wm q (i + 1) d
def ss_pY (yk yl ym : Nat → Int32) (q : ss_F) : Nat → Nat → Bool
  | _, 0 => true
  | i, d + 1 => decide (yk i < 0 ∨ (¬ ss_gt q (yk i).toNatClampNeg < yl i ∧ ss_gt q (yk i).toNatClampNeg ≤ ym i)) && ss_pY yk yl ym q (i + 1) d
theorem ss_p_eq {ws wk wl wm yk yl ym : Nat → Int32} (h : ss_wr ws wk wl wm yk yl ym) (q : ss_F) : ss_pX ws wk wl wm q 0 2 = ss_pY yk yl ym q 0 2 := by
  have hk : ∀ i, i < 2 → decide (ws i = 0 ∨ (¬ ss_gt q (wk i).toNatClampNeg < wl i ∧ ss_gt q (wk i).toNatClampNeg ≤ wm i)) = decide (yk i < 0 ∨ (¬ ss_gt q (yk i).toNatClampNeg < yl i ∧ ss_gt q (yk i).toNatClampNeg ≤ ym i)) := by
    intro i hi
    obtain ⟨⟨c, hc, hwc⟩, hh⟩ := h i hi
    rcases hh with ⟨a, b⟩ | ⟨a, b, e1, e2⟩
    · rw [decide_eq_true (Or.inl a), decide_eq_true (Or.inl b)]
    · rw [b, e1, e2]
      have hn : ¬ wk i < 0 := by rw [hwc]; exact nI_pos (by omega)
      by_cases z : ¬ ss_gt q (wk i).toNatClampNeg < wl i ∧ ss_gt q (wk i).toNatClampNeg ≤ wm i
      · rw [decide_eq_true (Or.inr z), decide_eq_true (Or.inr z)]
      · rw [decide_eq_false (fun w => w.elim a z), decide_eq_false (fun w => w.elim hn z)]
  unfold ss_pX ss_pY
  rw [hk 0 (by omega)]
  unfold ss_pX ss_pY
  rw [hk 1 (by omega)]
  rfl
def ss_P (cr : Nat → Int32) (t cnt : Nat) (tm : Int32) (v : ss_V) : Bool := ss_hd v tm && !ss_in cr v.1 (8 * t) cnt
theorem ss_fa_st {fr fi fr' fi' : Nat → Int32} {m : Nat} {p0 p1 p2 p3 : Int32} (h1 : fr' = upd fr m p0) (h2 : fi' = upd (upd (upd fi (3 * m) p1) (3 * m + 1) p2) (3 * m + 2) p3) :
    (∀ j, j < m → ss_fa fr' fi' j = ss_fa fr fi j) ∧ ss_fa fr' fi' m = (p0, p1, p2, p3) := by
  subst h1 h2
  refine ⟨fun j hj => ?_, ?_⟩
  · unfold ss_fa
    rw [ss_un (by omega), ss_un (by omega), ss_un (by omega), ss_un (by omega), ss_un (by omega), ss_un (by omega), ss_un (by omega), ss_un (by omega), ss_un (by omega), ss_un (by omega)]
  · unfold ss_fa
    rw [ss_us, ss_us]
    rw [ss_un (by omega), ss_un (by omega), ss_us, ss_un (by omega), ss_us]
section
variable {xc xr xn xf : Int32} {R F T N o s cc cr ci cg cn ws wk wl wm fr fi : Nat → Int32}
variable {pi : Int32 → Prop} {post : SX → Prop} {t cnt n : Nat}
theorem xs_passes_loop {m : Nat} (hm : m < 48) (hw : ∀ j, j < 2 → ∃ c, c < 3 ∧ wk j = nI c) : ∀ d i, i + d = 2 → pi (ss_b (ss_pX ws wk wl wm (ss_fa fr fi m) i d)) → wX_passes_2 pi (nI m) xc xr xn xf R F T N o s cc cr ci cg cn ws wk wl wm fr fi (d + 1) (nI i) := by
  intro d
  induction d with
  | zero => intro i hi hp; exact br_t (nI_le (a := 2) (by omega) (by omega)) hp
  | succ d ih =>
    intro i hi hp
    have hv : vp_in (nI i) 2 := vp_in_nI (by omega) (by decide)
    have hci : (nI i).toNatClampNeg = i := nI_clamp (by omega)
    obtain ⟨c, hc, hwc⟩ := hw i (by omega)
    have hn := ih (i + 1) (by omega)
    rw [ss_pX, hwc, nI_clamp (by omega), ss_gt_fa hc] at hp
    refine br_f (nI_ge (b := 2) (by omega) (by decide)) ⟨hv, ?_⟩
    rw [hci, hwc, ss_i3, nI_clamp (n := 3 * m + c) (by omega)]
    refine ⟨vp_in_nI (by omega) (by decide), nm_e ⟨hv, br_c (fun z => nm_r (nI_1 i) (hn ?_)) (fun z => ⟨hv, br_c (fun z2 => ?_) (fun z2 => ⟨hv, br_c (fun z3 => nm_r (nI_1 i) (hn ?_)) (fun z3 => ?_)⟩)⟩)⟩⟩
    · rw [decide_eq_true (Or.inl z), Bool.true_and] at hp; exact hp
    · rw [decide_eq_false (fun q => q.elim z (fun q => q.1 z2)), Bool.false_and] at hp; exact hp
    · rw [decide_eq_true (Or.inr ⟨z2, z3⟩), Bool.true_and] at hp; exact hp
    · rw [decide_eq_false (fun q => q.elim z (fun q => z3 q.2)), Bool.false_and] at hp; exact hp
theorem xs_passes {m : Nat} (hm : m < 48) (hw : ∀ j, j < 2 → ∃ c, c < 3 ∧ wk j = nI c) (hp : pi (ss_b (ss_pX ws wk wl wm (ss_fa fr fi m) 0 2))) : wpX_passes pi (xc, xr, xn, xf, R, F, T, N, o, s, cc, cr, ci, cg, cn, ws, wk, wl, wm, fr, fi) (nI m) :=
  ⟨3, xs_passes_loop hm hw 2 0 rfl hp⟩
theorem xs_addFound {m : Nat} {p0 p1 p2 p3 : Int32} (hm : m < 48) (hw : ∀ j, j < 2 → ∃ c, c < 3 ∧ wk j = nI c) (hp : ∀ (m' : Nat) (fr' fi' : Nat → Int32), m' ≤ m + 1 → ss_L (ss_fa fr' fi') 0 m' = ss_L (ss_fa fr fi) 0 m ++ [(p0, p1, p2, p3)].filter (fun q => ss_pX ws wk wl wm q 0 2) → post (xc, xr, xn, nI m', R, F, T, N, o, s, cc, cr, ci, cg, cn, ws, wk, wl, wm, fr', fi')) : wpX_addFound post (xc, xr, xn, nI m, R, F, T, N, o, s, cc, cr, ci, cg, cn, ws, wk, wl, wm, fr, fi) p0 p1 p2 p3 := by
  have hv : vp_in (nI m) 48 := vp_in_nI hm (by decide)
  have hcm : (nI m).toNatClampNeg = m := nI_clamp (by omega)
  refine br_t (nI_lt (b := 48) hm (by decide)) ?_
  rw [ss_j3, nI_1 (3 * m), ss_2 (3 * m), hcm, nI_clamp (n := 3 * m) (by omega), nI_clamp (n := 3 * m + 1) (by omega), nI_clamp (n := 3 * m + 2) (by omega)]
  refine ⟨hv, nm_e ⟨vp_in_nI (by omega) (by decide), nm_e ⟨vp_in_nI (by omega) (by decide), nm_e ⟨vp_in_nI (by omega) (by decide), nm_e ?_⟩⟩⟩⟩
  obtain ⟨h1, h2⟩ := ss_fa_st (fr := fr) (fi := fi) (m := m) (p0 := p0) (p1 := p1) (p2 := p2) (p3 := p3) rfl rfl
  refine xs_passes hm hw ?_
  rw [h2]
  cases hb : ss_pX ws wk wl wm (p0, p1, p2, p3) 0 2 with
  | true =>
    refine br_f ss_10 (nm_r (nI_1 m) (hp (m + 1) _ _ (by omega) ?_))
    rw [ss_Lsnoc, Nat.zero_add, h2, List.filter_cons_of_pos (p := fun q => ss_pX ws wk wl wm q 0 2) hb, List.filter_nil]
    rw [ss_Lcon (W := ss_fa fr fi) m 0 (fun j _ hj => h1 j (by omega))]
  | false =>
    refine br_t rfl (hp m _ _ (by omega) ?_)
    rw [List.filter_cons_of_neg (by rw [hb]; decide), List.filter_nil, List.append_nil]
    rw [ss_Lcon (W := ss_fa fr fi) m 0 (fun j _ hj => h1 j (by omega))]
theorem xs_fr_98 (ht : t < 4) (hc : cc t = nI cnt) (h8 : cnt ≤ 8) (hw : ∀ j, j < 2 → ∃ c, c < 3 ∧ wk j = nI c) : ∀ (d i m : Nat) (fr fi : Nat → Int32), i + d = cnt → m + d ≤ 48 → (∀ (m' : Nat) (fr' fi' : Nat → Int32), m' ≤ m + d → ss_L (ss_fa fr' fi') 0 m' = ss_L (ss_fa fr fi) 0 m ++ (ss_cl cr cn cg (8 * t + i) d).filter (fun q => ss_pX ws wk wl wm q 0 2) → post (xc, xr, xn, nI m', R, F, T, N, o, s, cc, cr, ci, cg, cn, ws, wk, wl, wm, fr', fi')) → wX_findRows_98 post (nI t) (d + 1) (nI i) xc xr xn (nI m) R F T N o s cc cr ci cg cn ws wk wl wm fr fi := by
  intro d
  have hvt : vp_in (nI t) 4 := vp_in_nI ht (by decide)
  induction d with
  | zero =>
    intro i m fr fi hi hm hp
    refine ⟨hvt, br_t ?_ (hp m fr fi (by omega) (by rw [ss_cl, List.filter_nil, List.append_nil]))⟩
    rw [nI_clamp (by omega), hc]; exact nI_le (by omega) (by omega)
  | succ d ih =>
    intro i m fr fi hi hm hp
    have hv : vp_in (nI (8 * t + i)) 32 := vp_in_nI (by omega) (by decide)
    refine ⟨hvt, br_f ?_ (nm_r (ss_i8 t i) ⟨hv, ?_⟩)⟩
    · rw [nI_clamp (by omega), hc]; exact nI_ge (by omega) (by omega)
    · rw [nI_clamp (n := 8 * t + i) (by omega)]
      refine br_c (fun z => nm_r (ss_j3 (8 * t + i)) ⟨hv, vp_in_nI (by omega) (by decide), by rw [nI_1]; exact vp_in_nI (by omega) (by decide), by rw [ss_2]; exact vp_in_nI (by omega) (by decide), ?_⟩) (fun z => ?_)
      · rw [nI_1 (3 * (8 * t + i)), ss_2 (3 * (8 * t + i)), nI_clamp (n := 3 * (8 * t + i)) (by omega), nI_clamp (n := 3 * (8 * t + i) + 1) (by omega), nI_clamp (n := 3 * (8 * t + i) + 2) (by omega)]
        refine xs_addFound (by omega) hw (fun m1 fr1 fi1 hm1 he1 => ?_)
        dsimp only
        refine nm_r (nI_1 i) (ih (i + 1) m1 fr1 fi1 (by omega) (by omega) (fun m' fr' fi' hm' he => hp m' fr' fi' (by omega) ?_))
        rw [he, he1, ss_cl, if_pos z, List.append_assoc]
        congr 1
        exact (List.filter_append [ss_fa cr cn (8 * t + i)] _).symm
      · refine nm_r (nI_1 i) (ih (i + 1) m fr fi (by omega) (by omega) (fun m' fr' fi' hm' he => hp m' fr' fi' (by omega) ?_))
        rw [he, ss_cl, if_neg z]
        rfl
theorem xs_fr_13 {p tm : Int32} (hn : n ≤ 40) (hx : xn = nI n) (hwho : ss_who xc s cc p t cnt tm) (hw : ∀ j, j < 2 → ∃ c, c < 3 ∧ wk j = nI c) : ∀ (d i m : Nat) (fr fi : Nat → Int32), i + d = n → m ≤ i → (∀ (m' : Nat) (fr' fi' : Nat → Int32), m' ≤ n → ss_L (ss_fa fr' fi') 0 m' = ss_L (ss_fa fr fi) 0 m ++ (((ss_L (ss_at R F T N) i d).filter (ss_P cr t cnt tm)).map ss_pr).filter (fun q => ss_pX ws wk wl wm q 0 2) → ((p = -1 → post (xc, xr, xn, nI m', R, F, T, N, o, s, cc, cr, ci, cg, cn, ws, wk, wl, wm, fr', fi')) ∧ (¬ p = -1 → ∃ n98 : Nat, wX_findRows_98 post p n98 0 xc xr xn (nI m') R F T N o s cc cr ci cg cn ws wk wl wm fr' fi'))) → wX_findRows_13 post p tm (d + 1) (nI i) xc xr xn (nI m) R F T N o s cc cr ci cg cn ws wk wl wm fr fi := by
  intro d
  have hb32 : 8 * t + cnt ≤ 32 := by rcases hwho with ⟨_, rfl, rfl, _⟩ | ⟨_, ht, _, h8, _⟩ <;> omega
  induction d with
  | zero =>
    intro i m fr fi hi hm hp
    exact br_t (by rw [hx]; exact nI_le (by omega) (by omega)) (hp m fr fi (by omega) (by rw [ss_L, List.filter_nil, List.map_nil, List.filter_nil, List.append_nil]))
  | succ d ih =>
    intro i m fr fi hi hm hp
    have hv : vp_in (nI i) 40 := vp_in_nI (by omega) (by decide)
    have hci : (nI i).toNatClampNeg = i := nI_clamp (by omega)
    have g0 : ss_P cr t cnt tm (ss_at R F T N i) = false → wX_findRows_13 post p tm (d + 1) (nI (i + 1)) xc xr xn (nI m) R F T N o s cc cr ci cg cn ws wk wl wm fr fi := by
      intro h
      refine ih (i + 1) m fr fi (by omega) (by omega) (fun m' fr' fi' hm' he => hp m' fr' fi' hm' ?_)
      rw [he, ss_L, List.filter_cons_of_neg (by rw [h]; decide)]
    refine br_f (by rw [hx]; exact nI_ge (by omega) (by omega)) (xs_holds (by omega) ?_)
    cases hb : ss_hd (ss_at R F T N i) tm with
    | false => exact br_t rfl (nm_r (nI_1 i) (g0 (by unfold ss_P; rw [hb]; rfl)))
    | true =>
      refine br_f ss_10 ⟨hv, ?_⟩
      rw [hci]
      refine xs_findChangeW hwho (br_c (fun z => nm_r (nI_1 i) (g0 ?_)) (fun z => nm_r (ss_j3 i) ⟨hv, vp_in_nI (by omega) (by decide), by rw [nI_1]; exact vp_in_nI (by omega) (by decide), by rw [ss_2]; exact vp_in_nI (by omega) (by decide), ?_⟩))
      · rw [ss_fc_pos hb32] at z
        unfold ss_P
        rw [show ss_in cr (ss_at R F T N i).1 (8 * t) cnt = true from z, Bool.not_true, Bool.and_false]
      · rw [ss_fc_pos hb32] at z
        have hP : ss_P cr t cnt tm (ss_at R F T N i) = true := by
          unfold ss_P
          rw [show ss_in cr (ss_at R F T N i).1 (8 * t) cnt = false from Bool.of_not_eq_true z, hb]; rfl
        rw [nI_1 (3 * i), ss_2 (3 * i), nI_clamp (n := 3 * i) (by omega), nI_clamp (n := 3 * i + 1) (by omega), nI_clamp (n := 3 * i + 2) (by omega)]
        refine xs_addFound (by omega) hw (fun m1 fr1 fi1 hm1 he1 => ?_)
        dsimp only
        refine nm_r (nI_1 i) (ih (i + 1) m1 fr1 fi1 (by omega) (by omega) (fun m' fr' fi' hm' he => hp m' fr' fi' hm' ?_))
        rw [he, he1, ss_L, List.filter_cons_of_pos hP, List.map_cons, List.append_assoc]
        congr 1
        exact (List.filter_append [ss_pr (ss_at R F T N i)] _).symm
def ss_Q (cr cn cg : Nat → Int32) (t cnt : Nat) (tm : Int32) (pw : ss_F → Bool) (L : List ss_V) : List ss_F :=
  ((L.filter (ss_P cr t cnt tm)).map ss_pr).filter pw ++ (ss_cl cr cn cg (8 * t) cnt).filter pw
theorem xs_findRows {p tm : Int32} (hn : n ≤ 40) (hx : xn = nI n) (hwho : ss_who xc s cc p t cnt tm) (hw : ∀ j, j < 2 → ∃ c, c < 3 ∧ wk j = nI c) (hp : ∀ (m : Nat) (fr' fi' : Nat → Int32), m ≤ 48 → ss_L (ss_fa fr' fi') 0 m = ss_Q cr cn cg t cnt tm (fun q => ss_pX ws wk wl wm q 0 2) (ss_L (ss_at R F T N) 0 n) → post (xc, xr, xn, nI m, R, F, T, N, o, s, cc, cr, ci, cg, cn, ws, wk, wl, wm, fr', fi')) : wpX_findRows post (xc, xr, xn, xf, R, F, T, N, o, s, cc, cr, ci, cg, cn, ws, wk, wl, wm, fr, fi) p := by
  unfold wpX_findRows; dsimp only
  refine xs_timeSeen hwho ⟨n + 1, xs_fr_13 hn hx hwho hw n 0 0 fr fi (by omega) (by omega) (fun m1 fr1 fi1 hm1 he1 => ?_)⟩
  rcases hwho with ⟨rfl, rfl, rfl, rfl⟩ | ⟨rfl, ht, hc, h8, rfl⟩
  · refine br_t rfl (hp m1 fr1 fi1 (by omega) ?_)
    rw [he1]; unfold ss_Q
    rw [ss_cl, List.filter_nil, List.append_nil]; rfl
  · refine br_f (ss_nm t (by omega)) ⟨cnt + 1, xs_fr_98 ht hc h8 hw cnt 0 m1 fr1 fi1 (by omega) (by omega) (fun m' fr' fi' hm' he => hp m' fr' fi' (by omega) ?_)⟩
    rw [he, he1]; rfl
end
section
variable {yn yc yr yf : Int32} {R F T N o s cc cr ci cg cn yk yl ym sr si ke : Nat → Int32}
variable {ps : SY → Prop} {post : Int32 → SY → Prop} {t cnt n : Nat}
theorem ys_add_74 {m : Nat} {q : ss_F} (hm : m < 64) (hq : ss_fa sr si m = q) (hy : ∀ j, j < 2 → yk j < 0 ∨ ∃ c, c < 3 ∧ yk j = nI c) : ∀ (d i : Nat) (b : Bool), i + d = 2 → ((b && ss_pY yk yl ym q i d) = true → ps (yn, yc, yr, nI (m + 1), R, F, T, N, o, s, cc, cr, ci, cg, cn, yk, yl, ym, sr, si, ke)) → ((b && ss_pY yk yl ym q i d) = false → ps (yn, yc, yr, nI m, R, F, T, N, o, s, cc, cr, ci, cg, cn, yk, yl, ym, sr, si, ke)) → wY_add_74 ps yn yc yr (nI m) R F T N o s cc cr ci cg cn yk yl ym sr si ke (d + 1) (ss_b b) (nI i) := by
  intro d
  induction d with
  | zero =>
    intro i b hi h1 h0
    refine br_t (nI_le (a := 2) (by omega) (by omega)) ?_
    rw [ss_pY, Bool.and_true] at h1 h0
    cases b with
    | true => exact br_f ss_10 (nm_r (nI_1 m) (h1 rfl))
    | false => exact br_t rfl (h0 rfl)
  | succ d ih =>
    intro i b hi h1 h0
    have hv : vp_in (nI i) 2 := vp_in_nI (by omega) (by decide)
    have hci : (nI i).toNatClampNeg = i := nI_clamp (by omega)
    have hn := ih (i + 1)
    rw [ss_pY] at h1 h0
    refine br_f (nI_ge (b := 2) (by omega) (by decide)) ⟨hv, nm_r (e' := yk i) (by rw [hci]) ?_⟩
    rw [hci]
    rcases hy i (by omega) with hneg | ⟨c, hc, hyc⟩
    · rw [decide_eq_true (Or.inl hneg), Bool.true_and] at h1 h0
      exact br_t hneg (nm_r (nI_1 i) (hn b (by omega) h1 h0))
    · have hnn : ¬ nI c < 0 := nI_pos (by omega)
      rw [hyc, nI_clamp (n := c) (by omega), ← hq, ss_gt_fa hc] at h1 h0
      rw [hyc, ss_3i, nI_clamp (n := 3 * m + c) (by omega)]
      have hv2 : vp_in (nI (3 * m + c)) 192 := vp_in_nI (by omega) (by decide)
      refine br_f hnn ⟨hv2, hv, br_c (fun z2 => nm_r (nI_1 i) (hn false (by omega) (fun z => nomatch z) (fun _ => h0 ?_))) (fun z2 => ⟨hv2, hv, br_c (fun z3 => nm_r (nI_1 i) ?_) (fun z3 => nm_r (nI_1 i) (hn false (by omega) (fun z => nomatch z) (fun _ => h0 ?_)))⟩)⟩
      · rw [decide_eq_false (fun w => w.elim hnn (fun w => w.1 z2)), Bool.false_and, Bool.and_false]
      · rw [decide_eq_true (Or.inr ⟨z2, z3⟩), Bool.true_and, hq] at h1 h0
        exact hn b (by omega) h1 h0
      · rw [decide_eq_false (fun w => w.elim hnn (fun w => z3 w.2)), Bool.false_and, Bool.and_false]
theorem ys_add_e {m : Nat} {q : ss_F} (hm : m < 64) (hq : ss_fa sr si m = q) (hy : ∀ j, j < 2 → yk j < 0 ∨ ∃ c, c < 3 ∧ yk j = nI c) (hp : ∀ m' : Nat, m' ≤ m + 1 → ss_L (ss_fa sr si) 0 m' = ss_L (ss_fa sr si) 0 m ++ [q].filter (fun q => ss_pY yk yl ym q 0 2) → ps (yn, yc, yr, nI m', R, F, T, N, o, s, cc, cr, ci, cg, cn, yk, yl, ym, sr, si, ke)) : ∃ n74 : Nat, wY_add_74 ps yn yc yr (nI m) R F T N o s cc cr ci cg cn yk yl ym sr si ke n74 1 0 := by
  refine ⟨3, ys_add_74 hm hq hy 2 0 true rfl (fun h => hp (m + 1) (by omega) ?_) (fun h => hp m (by omega) ?_)⟩
  · rw [Bool.true_and] at h
    rw [ss_Lsnoc, Nat.zero_add, hq, List.filter_cons_of_pos (p := fun q => ss_pY yk yl ym q 0 2) h, List.filter_nil]
  · rw [Bool.true_and] at h
    rw [List.filter_cons_of_neg (by rw [h]; decide), List.filter_nil, List.append_nil]
theorem ys_add0 {m i : Nat} {row : Int32} (hm : m < 64) (hi : i < 56) (hy : ∀ j, j < 2 → yk j < 0 ∨ ∃ c, c < 3 ∧ yk j = nI c) (hp : ∀ (m' : Nat) (sr' si' : Nat → Int32), m' ≤ m + 1 → ss_L (ss_fa sr' si') 0 m' = ss_L (ss_fa sr si) 0 m ++ [(row, N (3 * i), N (3 * i + 1), N (3 * i + 2))].filter (fun q => ss_pY yk yl ym q 0 2) → ps (yn, yc, yr, nI m', R, F, T, N, o, s, cc, cr, ci, cg, cn, yk, yl, ym, sr', si', ke)) : wpY_add ps (yn, yc, yr, nI m, R, F, T, N, o, s, cc, cr, ci, cg, cn, yk, yl, ym, sr, si, ke) row 0 (nI i) := by
  refine ⟨vp_in_nI hm (by decide), nm_r (e' := upd sr m row) (by rw [nI_clamp (by omega)]) ?_⟩
  obtain ⟨h1, h2⟩ := ss_fa_st (fr := sr) (fi := si) (m := m) (p0 := row) (p1 := N (3 * i)) (p2 := N (3 * i + 1)) (p3 := N (3 * i + 2)) rfl rfl
  have hq := ys_add_e (ps := ps) (yn := yn) (yc := yc) (yr := yr) (R := R) (F := F) (T := T) (N := N) (o := o) (s := s) (cc := cc) (cr := cr) (ci := ci) (cg := cg) (cn := cn) (ke := ke) (yl := yl) (ym := ym) hm h2 hy (fun m' hm' he => hp m' _ _ hm' (by
    rw [he, ss_Lcon (W := ss_fa sr si) m 0 (fun j _ hj => h1 j (by omega))]))
  exact ⟨4, br_f (by decide) (br_t rfl ⟨by rw [ss_z30 i]; exact vp_in_nI (by omega) (by decide), by rw [ss_z30 m]; exact vp_in_nI (by omega) (by decide), nm_r (e' := upd si (3 * m) (N (3 * i))) (by rw [ss_z30 m, ss_z30 i, nI_clamp (n := 3 * m) (by omega), nI_clamp (n := 3 * i) (by omega)]) (nm_r (e' := 1) (by decide) (br_f (by decide) (br_t rfl ⟨by rw [ss_z31 i]; exact vp_in_nI (by omega) (by decide), by rw [ss_z31 m]; exact vp_in_nI (by omega) (by decide), nm_r (e' := upd (upd si (3 * m) (N (3 * i))) (3 * m + 1) (N (3 * i + 1))) (by rw [ss_z31 m, ss_z31 i, nI_clamp (n := 3 * m + 1) (by omega), nI_clamp (n := 3 * i + 1) (by omega)]) (nm_r (e' := 2) (by decide) (br_f (by decide) (br_t rfl ⟨by rw [ss_z32 i]; exact vp_in_nI (by omega) (by decide), by rw [ss_z32 m]; exact vp_in_nI (by omega) (by decide), nm_r (e' := upd (upd (upd si (3 * m) (N (3 * i))) (3 * m + 1) (N (3 * i + 1))) (3 * m + 2) (N (3 * i + 2))) (by rw [ss_z32 m, ss_z32 i, nI_clamp (n := 3 * m + 2) (by omega), nI_clamp (n := 3 * i + 2) (by omega)]) (nm_r (e' := 3) (by decide) (br_t (by decide) hq))⟩)))⟩)))⟩)⟩
theorem ys_add1 {m i : Nat} {row : Int32} (hm : m < 64) (hi : i < 32) (hy : ∀ j, j < 2 → yk j < 0 ∨ ∃ c, c < 3 ∧ yk j = nI c) (hp : ∀ (m' : Nat) (sr' si' : Nat → Int32), m' ≤ m + 1 → ss_L (ss_fa sr' si') 0 m' = ss_L (ss_fa sr si) 0 m ++ [(row, cn (3 * i), cn (3 * i + 1), cn (3 * i + 2))].filter (fun q => ss_pY yk yl ym q 0 2) → ps (yn, yc, yr, nI m', R, F, T, N, o, s, cc, cr, ci, cg, cn, yk, yl, ym, sr', si', ke)) : wpY_add ps (yn, yc, yr, nI m, R, F, T, N, o, s, cc, cr, ci, cg, cn, yk, yl, ym, sr, si, ke) row 1 (nI i) := by
  refine ⟨vp_in_nI hm (by decide), nm_r (e' := upd sr m row) (by rw [nI_clamp (by omega)]) ?_⟩
  obtain ⟨h1, h2⟩ := ss_fa_st (fr := sr) (fi := si) (m := m) (p0 := row) (p1 := cn (3 * i)) (p2 := cn (3 * i + 1)) (p3 := cn (3 * i + 2)) rfl rfl
  have hq := ys_add_e (ps := ps) (yn := yn) (yc := yc) (yr := yr) (R := R) (F := F) (T := T) (N := N) (o := o) (s := s) (cc := cc) (cr := cr) (ci := ci) (cg := cg) (cn := cn) (ke := ke) (yl := yl) (ym := ym) hm h2 hy (fun m' hm' he => hp m' _ _ hm' (by
    rw [he, ss_Lcon (W := ss_fa sr si) m 0 (fun j _ hj => h1 j (by omega))]))
  exact ⟨4, br_f (by decide) (br_f ss_10 ⟨by rw [ss_z30 i]; exact vp_in_nI (by omega) (by decide), by rw [ss_z30 m]; exact vp_in_nI (by omega) (by decide), nm_r (e' := upd si (3 * m) (cn (3 * i))) (by rw [ss_z30 m, ss_z30 i, nI_clamp (n := 3 * m) (by omega), nI_clamp (n := 3 * i) (by omega)]) (nm_r (e' := 1) (by decide) (br_f (by decide) (br_f ss_10 ⟨by rw [ss_z31 i]; exact vp_in_nI (by omega) (by decide), by rw [ss_z31 m]; exact vp_in_nI (by omega) (by decide), nm_r (e' := upd (upd si (3 * m) (cn (3 * i))) (3 * m + 1) (cn (3 * i + 1))) (by rw [ss_z31 m, ss_z31 i, nI_clamp (n := 3 * m + 1) (by omega), nI_clamp (n := 3 * i + 1) (by omega)]) (nm_r (e' := 2) (by decide) (br_f (by decide) (br_f ss_10 ⟨by rw [ss_z32 i]; exact vp_in_nI (by omega) (by decide), by rw [ss_z32 m]; exact vp_in_nI (by omega) (by decide), nm_r (e' := upd (upd (upd si (3 * m) (cn (3 * i))) (3 * m + 1) (cn (3 * i + 1))) (3 * m + 2) (cn (3 * i + 2))) (by rw [ss_z32 m, ss_z32 i, nI_clamp (n := 3 * m + 2) (by omega), nI_clamp (n := 3 * i + 2) (by omega)]) (nm_r (e' := 3) (by decide) (br_t (by decide) hq))⟩)))⟩)))⟩)⟩
theorem ys_lk_96 (ht : t < 4) (hc : cc t = nI cnt) (h8 : cnt ≤ 8) (hy : ∀ j, j < 2 → yk j < 0 ∨ ∃ c, c < 3 ∧ yk j = nI c) : ∀ (d i m : Nat) (sr si : Nat → Int32), i + d = cnt → m + d ≤ 56 → (∀ (m' : Nat) (sr' si' : Nat → Int32), ss_L (ss_fa sr' si') 0 m' = ss_L (ss_fa sr si) 0 m ++ (ss_cl cr cn cg (8 * t + i) d).filter (fun q => ss_pY yk yl ym q 0 2) → post 1 (yn, yc, yr, nI m', R, F, T, N, o, s, cc, cr, ci, cg, cn, yk, yl, ym, sr', si', ke)) → wY_look_96 post (nI t) (d + 1) (nI (8 * t + i)) yn yc yr (nI m) R F T N o s cc cr ci cg cn yk yl ym sr si ke := by
  intro d
  have e8 : 8 * nI t + cc (nI t).toNatClampNeg = nI (8 * t + cnt) := by rw [nI_clamp (by omega), hc, ss_8i]
  have hvt : vp_in (nI t) 4 := vp_in_nI ht (by decide)
  induction d with
  | zero =>
    intro i m sr si hi hm hp
    refine br_f (nI_pos (by omega)) ⟨hvt, br_t (by rw [e8]; exact nI_le (by omega) (by omega)) (hp m sr si (by rw [ss_cl, List.filter_nil, List.append_nil]))⟩
  | succ d ih =>
    intro i m sr si hi hm hp
    have hv : vp_in (nI (8 * t + i)) 32 := vp_in_nI (by omega) (by decide)
    refine br_f (nI_pos (by omega)) ⟨hvt, br_f (by rw [e8]; exact nI_ge (by omega) (by omega)) ⟨hv, ?_⟩⟩
    rw [nI_clamp (n := 8 * t + i) (by omega)]
    refine br_c (fun z => ⟨hv, ys_add1 (by omega) (by omega) hy (fun m1 sr1 si1 hm1 he1 => ?_)⟩) (fun z => ?_)
    · dsimp only
      refine nm_r (nI_1 (8 * t + i)) (ih (i + 1) m1 sr1 si1 (by omega) (by omega) (fun m' sr' si' he => hp m' sr' si' ?_))
      rw [he, he1, ss_cl, if_pos z, List.append_assoc]
      congr 1
      exact (List.filter_append [ss_fa cr cn (8 * t + i)] _).symm
    · refine nm_r (nI_1 (8 * t + i)) (ih (i + 1) m sr si (by omega) (by omega) (fun m' sr' si' he => hp m' sr' si' ?_))
      rw [he, ss_cl, if_neg z]
      rfl
theorem ys_lk_22 {p tm : Int32} (hn : n ≤ 48) (hx : yn = nI n) (hwho : ss_who yc s cc p t cnt tm) (hy : ∀ j, j < 2 → yk j < 0 ∨ ∃ c, c < 3 ∧ yk j = nI c) : ∀ (d i m : Nat) (sr si : Nat → Int32), i + d = n → m ≤ i → (∀ (m' : Nat) (sr' si' : Nat → Int32), m' ≤ n → ss_L (ss_fa sr' si') 0 m' = ss_L (ss_fa sr si) 0 m ++ (((ss_L (ss_at R F T N) i d).filter (ss_P cr t cnt tm)).map ss_pr).filter (fun q => ss_pY yk yl ym q 0 2) → ∃ n96 : Nat, wY_look_96 post p n96 (8 * p) yn yc yr (nI m') R F T N o s cc cr ci cg cn yk yl ym sr' si' ke) → wY_look_22 post p (d + 1) (nI i) yn yc yr (nI m) R F T N o s cc cr ci cg cn yk yl ym sr si ke := by
  intro d
  have hb32 : 8 * t + cnt ≤ 32 := by rcases hwho with ⟨_, rfl, rfl, _⟩ | ⟨_, ht, _, h8, _⟩ <;> omega
  induction d with
  | zero =>
    intro i m sr si hi hm hp
    exact br_t (by rw [hx]; exact nI_le (by omega) (by omega)) (nm_e (hp m sr si (by omega) (by rw [ss_L, List.filter_nil, List.map_nil, List.filter_nil, List.append_nil])))
  | succ d ih =>
    intro i m sr si hi hm hp
    have hv : vp_in (nI i) 56 := vp_in_nI (by omega) (by decide)
    have hci : (nI i).toNatClampNeg = i := nI_clamp (by omega)
    have g0 : ss_P cr t cnt tm (ss_at R F T N i) = false → wY_look_22 post p (d + 1) (nI (i + 1)) yn yc yr (nI m) R F T N o s cc cr ci cg cn yk yl ym sr si ke := by
      intro h
      refine ih (i + 1) m sr si (by omega) (by omega) (fun m' sr' si' hm' he => hp m' sr' si' hm' ?_)
      rw [he, ss_L, List.filter_cons_of_neg (by rw [h]; decide)]
    have g1 : ss_P cr t cnt tm (ss_at R F T N i) = true → wY_look_73 post (wY_look_22 post p (d + 1)) p (nI i) yn yc yr (nI m) R F T N o s cc cr ci cg cn yk yl ym sr si ke := by
      intro h
      refine ⟨hv, ?_⟩
      rw [hci]
      refine ys_add0 (by omega) (by omega) hy (fun m1 sr1 si1 hm1 he1 => ?_)
      dsimp only
      refine nm_r (nI_1 i) (ih (i + 1) m1 sr1 si1 (by omega) (by omega) (fun m' sr' si' hm' he => hp m' sr' si' hm' ?_))
      rw [he, he1, ss_L, List.filter_cons_of_pos h, List.map_cons, List.append_assoc]
      congr 1
      exact (List.filter_append [ss_pr (ss_at R F T N i)] _).symm
    have g49 : wY_look_49 post (wY_look_22 post p (d + 1)) p (nI i) tm (nI i) yn yc yr (nI m) R F T N o s cc cr ci cg cn yk yl ym sr si ke := by
      unfold wY_look_49
      refine ys_holds (by omega) ?_
      cases hb : ss_hd (ss_at R F T N i) tm with
      | false => exact br_t rfl (nm_r (nI_1 i) (g0 (by unfold ss_P; rw [hb]; rfl)))
      | true =>
        refine br_f ss_10 ?_
        rcases hwho with ⟨rfl, rfl, rfl, rfl⟩ | ⟨rfl, ht, hc, h8, rfl⟩
        · exact br_t ss_m0 (g1 (by unfold ss_P; rw [hb]; rfl))
        · refine br_f (nI_pos (by omega)) ⟨hv, ?_⟩
          rw [hci]
          refine ys_changeOf ht hc h8 (br_c (fun z => nm_r (nI_1 i) (g0 ?_)) (fun z => g1 ?_))
          · rw [ss_fc_pos hb32] at z
            unfold ss_P
            rw [show ss_in cr (ss_at R F T N i).1 (8 * t) cnt = true from z, Bool.not_true, Bool.and_false]
          · rw [ss_fc_pos hb32] at z
            unfold ss_P
            rw [show ss_in cr (ss_at R F T N i).1 (8 * t) cnt = false from Bool.of_not_eq_true z, hb]; rfl
    refine br_f (by rw [hx]; exact nI_ge (by omega) (by omega)) ?_
    rcases hwho with ⟨rfl, _, _, rfl⟩ | ⟨rfl, ht, _, _, rfl⟩
    · exact br_f (by decide) g49
    · refine br_t (nI_pos' (by omega)) ⟨vp_in_nI ht (by decide), ?_⟩
      rw [nI_clamp (n := t) (by omega)]
      exact g49
theorem ys_look {p tm : Int32} (hn : n ≤ 48) (hx : yn = nI n) (hask : p = -1 ∨ ss_op o p) (hwho : ss_who yc s cc p t cnt tm) (hy : ∀ j, j < 2 → yk j < 0 ∨ ∃ c, c < 3 ∧ yk j = nI c) (hp : ∀ (m : Nat) (sr' si' : Nat → Int32), ss_L (ss_fa sr' si') 0 m = ss_Q cr cn cg t cnt tm (fun q => ss_pY yk yl ym q 0 2) (ss_L (ss_at R F T N) 0 n) → post 1 (yn, yc, yr, nI m, R, F, T, N, o, s, cc, cr, ci, cg, cn, yk, yl, ym, sr', si', ke)) : wpY_look post (yn, yc, yr, yf, R, F, T, N, o, s, cc, cr, ci, cg, cn, yk, yl, ym, sr, si, ke) p := by
  have hl : ∃ n22 : Nat, wY_look_22 post p n22 0 yn yc yr 0 R F T N o s cc cr ci cg cn yk yl ym sr si ke := by
    refine ⟨n + 1, ys_lk_22 hn hx hwho hy n 0 0 sr si (by omega) (by omega) (fun m1 sr1 si1 hm1 he1 => ?_)⟩
    rcases hwho with ⟨rfl, rfl, rfl, rfl⟩ | ⟨rfl, ht, hc, h8, rfl⟩
    · refine ⟨1, br_t ss_m0 (hp m1 sr1 si1 ?_)⟩
      rw [he1]; unfold ss_Q
      rw [ss_cl, List.filter_nil, List.append_nil]; rfl
    · rw [ss_8j]
      refine ⟨cnt + 1, ys_lk_96 ht hc h8 hy cnt 0 m1 sr1 si1 (by omega) (by omega) (fun m' sr' si' he => hp m' sr' si' ?_)⟩
      rw [he, he1]; rfl
  refine br_c (fun _ => hl) (fun hne => ?_)
  rcases hask with h | ho
  · exact absurd h hne
  · exact ys_isOpen_t ho (br_f ss_10 hl)
theorem ys_look_f {p : Int32} (hask : ¬ (p = -1 ∨ ss_op o p)) (hp : post 0 (yn, yc, yr, 0, R, F, T, N, o, s, cc, cr, ci, cg, cn, yk, yl, ym, sr, si, ke)) : wpY_look post (yn, yc, yr, yf, R, F, T, N, o, s, cc, cr, ci, cg, cn, yk, yl, ym, sr, si, ke) p :=
  br_f (fun z => hask (Or.inl z)) (ys_isOpen_f (fun z => hask (Or.inr z)) (br_t rfl hp))
end
end
section
def ss_sum (g : Nat → Int32) : Nat → Nat → Int64 → Int64
  | _, 0, a => a
  | i, d + 1, a => ss_sum g (i + 1) d (a + (g i).toInt64)
def ss_min (g : Nat → Int32) : Nat → Nat → Int32 → Int32
  | _, 0, a => a
  | i, d + 1, a => ss_min g (i + 1) d (if a ≤ g i then a else g i)
def ss_max (g : Nat → Int32) : Nat → Nat → Int32 → Int32
  | _, 0, a => a
  | i, d + 1, a => ss_max g (i + 1) d (if g i ≤ a then a else g i)
def ss_fst (g : Nat → Int32) (x : Int32) : Nat → Nat → Bool
  | _, 0 => true
  | i, d + 1 => decide (¬ g i = x) && ss_fst g x (i + 1) d
def ss_ct (p : Nat → Bool) : Nat → Nat → Nat
  | _, 0 => 0
  | i, d + 1 => (if p i = true then 1 else 0) + ss_ct p (i + 1) d
theorem ss_ct_le (p : Nat → Bool) : ∀ d i, ss_ct p i d ≤ d := by
  intro d
  induction d with
  | zero => intro i; exact Nat.le_refl 0
  | succ d ih =>
    intro i
    rw [ss_ct]
    have := ih (i + 1)
    split <;> omega
def ss_pd (g : Nat → Int32) (j : Nat) : Bool := ss_fst g (g j) 0 j
def ss_pb (g : Nat → Int32) (x : Int32) (j : Nat) : Bool := decide (¬ x ≤ g j) && ss_fst g (g j) 0 j
def ss_be (g p : Nat → Int32) (i j : Nat) : Bool := decide (g j < g i ∨ (g j = g i ∧ ¬ p i ≤ p j))
def ss_od (p : Nat → Int32) (cb : Nat → Int32) (k : Int32) : Nat → Nat → Int32
  | _, 0 => -1
  | i, d + 1 => if cb i = k then p i else ss_od p cb k (i + 1) d
theorem ss_cpyF {fr fi fr' fi' : Nat → Int32} {i k : Nat} (h0 : fr' = upd fr k (fr i)) (h : fi' = upd (upd (upd fi (3 * k) (fi (3 * i))) (3 * k + 1) (upd fi (3 * k) (fi (3 * i)) (3 * i + 1))) (3 * k + 2) (upd (upd fi (3 * k) (fi (3 * i))) (3 * k + 1) (upd fi (3 * k) (fi (3 * i)) (3 * i + 1)) (3 * i + 2))) :
    ss_fa fr' fi' k = ss_fa fr fi i ∧ ∀ j, j ≠ k → ss_fa fr' fi' j = ss_fa fr fi j := by
  obtain ⟨h1, h2, h3, h4⟩ := ss_cpy h
  subst h0
  refine ⟨?_, fun j hj => ?_⟩
  · unfold ss_fa; rw [ss_us, h1, h2, h3]
  · obtain ⟨q1, q2, q3⟩ := h4 j hj
    unfold ss_fa; rw [ss_un hj, q1, q2, q3]
section
variable {xc xr xn xf : Int32} {R F T N o s cc cr ci cg cn ws wk wl wm fr fi : Nat → Int32}
variable {p6 : Int64 → Prop} {post : Int32 → Prop} {ps : Int32 → SX → Prop} {m c : Nat} {g p : Nat → Int32}
theorem xs_sum_loop (hm : m ≤ 48) (hc : c < 3) (hg : ∀ j, j < m → fi (3 * j + c) = g j) : ∀ d i a, i + d = m → p6 (ss_sum g i d a) → wX_sumOf_5 p6 (nI c) xc xr xn (nI m) R F T N o s cc cr ci cg cn ws wk wl wm fr fi (d + 1) a (nI i) := by
  intro d
  induction d with
  | zero => intro i a hi hp; exact br_t (nI_le (by omega) (by omega)) hp
  | succ d ih =>
    intro i a hi hp
    refine br_f (nI_ge (by omega) (by omega)) ?_
    rw [ss_i3, nI_clamp (n := 3 * i + c) (by omega), hg i (by omega)]
    exact ⟨vp_in_nI (by omega) (by decide), nm_e (nm_r (nI_1 i) (ih (i + 1) _ (by omega) hp))⟩
theorem xs_sumOf (hm : m ≤ 48) (hc : c < 3) (hg : ∀ j, j < m → fi (3 * j + c) = g j) (hp : p6 (ss_sum g 0 m 0)) : wpX_sumOf p6 (xc, xr, xn, nI m, R, F, T, N, o, s, cc, cr, ci, cg, cn, ws, wk, wl, wm, fr, fi) (nI c) :=
  ⟨m + 1, xs_sum_loop hm hc hg m 0 0 (by omega) hp⟩
theorem xs_min_loop (hm : m ≤ 48) (hc : c < 3) (hg : ∀ j, j < m → fi (3 * j + c) = g j) : ∀ d i a, 0 < i → i + d = m → post (ss_min g i d a) → wX_leastOf_4 post (nI c) xc xr xn (nI m) R F T N o s cc cr ci cg cn ws wk wl wm fr fi (d + 1) a (nI i) := by
  intro d
  induction d with
  | zero => intro i a h0 hi hp; exact br_t (nI_le (by omega) (by omega)) hp
  | succ d ih =>
    intro i a h0 hi hp
    refine br_f (nI_ge (by omega) (by omega)) ?_
    rw [ss_i3, nI_clamp (n := 3 * i + c) (by omega), hg i (by omega)]
    rw [ss_min] at hp
    refine ⟨vp_in_nI (by omega) (by decide), nm_e (br_f (nI_ne0 h0 (by omega)) (br_c (fun z => ?_) (fun z => ?_)))⟩
    · rw [if_pos z] at hp; exact nm_r (nI_1 i) (ih (i + 1) _ (by omega) (by omega) hp)
    · rw [if_neg z] at hp; exact nm_r (nI_1 i) (ih (i + 1) _ (by omega) (by omega) hp)
theorem xs_max_loop (hm : m ≤ 48) (hc : c < 3) (hg : ∀ j, j < m → fi (3 * j + c) = g j) : ∀ d i a, 0 < i → i + d = m → post (ss_max g i d a) → wX_greatestOf_4 post (nI c) xc xr xn (nI m) R F T N o s cc cr ci cg cn ws wk wl wm fr fi (d + 1) a (nI i) := by
  intro d
  induction d with
  | zero => intro i a h0 hi hp; exact br_t (nI_le (by omega) (by omega)) hp
  | succ d ih =>
    intro i a h0 hi hp
    refine br_f (nI_ge (by omega) (by omega)) ?_
    rw [ss_i3, nI_clamp (n := 3 * i + c) (by omega), hg i (by omega)]
    rw [ss_max] at hp
    refine ⟨vp_in_nI (by omega) (by decide), nm_e (br_f (nI_ne0 h0 (by omega)) (br_c (fun z => ?_) (fun z => ?_)))⟩
    · rw [if_pos z] at hp; exact nm_r (nI_1 i) (ih (i + 1) _ (by omega) (by omega) hp)
    · rw [if_neg z] at hp; exact nm_r (nI_1 i) (ih (i + 1) _ (by omega) (by omega) hp)
def ss_mn (g : Nat → Int32) : Nat → Int32
  | 0 => 0
  | d + 1 => ss_min g 1 d (g 0)
def ss_mx (g : Nat → Int32) : Nat → Int32
  | 0 => 0
  | d + 1 => ss_max g 1 d (g 0)
theorem xs_leastOf (hm : m ≤ 48) (hc : c < 3) (hg : ∀ j, j < m → fi (3 * j + c) = g j) (hp : post (ss_mn g m)) : wpX_leastOf post (xc, xr, xn, nI m, R, F, T, N, o, s, cc, cr, ci, cg, cn, ws, wk, wl, wm, fr, fi) (nI c) := by
  cases m with
  | zero => exact ⟨1, br_t (nI_le (a := 0) (b := 0) (by omega) (by omega)) hp⟩
  | succ d =>
    refine ⟨d + 2, br_f (nI_ge (a := 0) (by omega) (by omega)) ?_⟩
    have e : (0 : Int32) * 3 + nI c = nI c := ss_i3 0 c ▸ (by rw [Nat.mul_zero, Nat.zero_add])
    have h0 := hg 0 (by omega)
    rw [Nat.mul_zero, Nat.zero_add] at h0
    rw [e, nI_clamp (n := c) (by omega), h0]
    exact ⟨vp_in_nI (by omega) (by decide), nm_e (br_t rfl (nm_r (e' := nI 1) (by decide) (xs_min_loop hm hc hg d 1 _ (by omega) (by omega) hp)))⟩
theorem xs_greatestOf (hm : m ≤ 48) (hc : c < 3) (hg : ∀ j, j < m → fi (3 * j + c) = g j) (hp : post (ss_mx g m)) : wpX_greatestOf post (xc, xr, xn, nI m, R, F, T, N, o, s, cc, cr, ci, cg, cn, ws, wk, wl, wm, fr, fi) (nI c) := by
  cases m with
  | zero => exact ⟨1, br_t (nI_le (a := 0) (b := 0) (by omega) (by omega)) hp⟩
  | succ d =>
    refine ⟨d + 2, br_f (nI_ge (a := 0) (by omega) (by omega)) ?_⟩
    have e : (0 : Int32) * 3 + nI c = nI c := ss_i3 0 c ▸ (by rw [Nat.mul_zero, Nat.zero_add])
    have h0 := hg 0 (by omega)
    rw [Nat.mul_zero, Nat.zero_add] at h0
    rw [e, nI_clamp (n := c) (by omega), h0]
    exact ⟨vp_in_nI (by omega) (by decide), nm_e (br_t rfl (nm_r (e' := nI 1) (by decide) (xs_max_loop hm hc hg d 1 _ (by omega) (by omega) hp)))⟩
theorem xs_first_loop {k : Nat} {x : Int32} (hm : m ≤ 48) (hc : c < 3) (hg : ∀ j, j < m → fi (3 * j + c) = g j) (hk : k < m) : ∀ d i, i + d = k → post (ss_b (ss_fst g x i d)) → wX_isFirstOfValue_14 post (nI k) (nI c) x xc xr xn xf R F T N o s cc cr ci cg cn ws wk wl wm fr fi (d + 1) (nI i) := by
  intro d
  induction d with
  | zero => intro i hi hp; exact br_t (nI_le (by omega) (by omega)) hp
  | succ d ih =>
    intro i hi hp
    refine br_f (nI_ge (by omega) (by omega)) ?_
    rw [ss_i3, nI_clamp (n := 3 * i + c) (by omega), hg i (by omega)]
    rw [ss_fst] at hp
    refine ⟨vp_in_nI (by omega) (by decide), br_c (fun z => ?_) (fun z => ?_)⟩
    · rw [decide_eq_false (fun q => q z), Bool.false_and] at hp; exact hp
    · rw [decide_eq_true z, Bool.true_and] at hp; exact nm_r (nI_1 i) (ih (i + 1) (by omega) hp)
theorem xs_isFirst {k : Nat} (hm : m ≤ 48) (hc : c < 3) (hg : ∀ j, j < m → fi (3 * j + c) = g j) (hk : k < m) (hp : post (ss_b (ss_fst g (g k) 0 k))) : wpX_isFirstOfValue post (xc, xr, xn, xf, R, F, T, N, o, s, cc, cr, ci, cg, cn, ws, wk, wl, wm, fr, fi) (nI k) (nI c) := by
  refine ⟨by rw [ss_i3]; exact vp_in_nI (by omega) (by decide), nm_r (e' := g k) ?_ ⟨k + 1, xs_first_loop hm hc hg hk k 0 (by omega) hp⟩⟩
  rw [ss_i3, nI_clamp (n := 3 * k + c) (by omega), hg k hk]
theorem xs_diff_loop (hm : m ≤ 48) (hc : c < 3) (hg : ∀ j, j < m → fi (3 * j + c) = g j) : ∀ d i a, i + d = m → post (nI (a + ss_ct (ss_pd g) i d)) → wX_countDifferent_4 post (nI c) xc xr xn (nI m) R F T N o s cc cr ci cg cn ws wk wl wm fr fi (d + 1) (nI a) (nI i) := by
  intro d
  induction d with
  | zero => intro i a hi hp; exact br_t (nI_le (by omega) (by omega)) hp
  | succ d ih =>
    intro i a hi hp
    refine br_f (nI_ge (by omega) (by omega)) (xs_isFirst hm hc hg (by omega) ?_)
    rw [ss_ct] at hp
    cases hb : ss_fst g (g i) 0 i with
    | false =>
      rw [if_neg (by unfold ss_pd; rw [hb]; decide), Nat.zero_add] at hp
      exact br_t rfl (nm_r (nI_1 i) (ih (i + 1) a (by omega) hp))
    | true =>
      rw [if_pos (show ss_pd g i = true from hb), ← Nat.add_assoc] at hp
      exact br_f ss_10 (nm_r (nI_1 a) (nm_r (nI_1 i) (ih (i + 1) (a + 1) (by omega) hp)))
theorem xs_countDifferent (hm : m ≤ 48) (hc : c < 3) (hg : ∀ j, j < m → fi (3 * j + c) = g j) (hp : post (nI (ss_ct (ss_pd g) 0 m))) : wpX_countDifferent post (xc, xr, xn, nI m, R, F, T, N, o, s, cc, cr, ci, cg, cn, ws, wk, wl, wm, fr, fi) (nI c) :=
  ⟨m + 1, xs_diff_loop hm hc hg m 0 0 (by omega) (by rw [Nat.zero_add]; exact hp)⟩
theorem xs_below_loop {x : Int32} (hm : m ≤ 48) (hc : c < 3) (hg : ∀ j, j < m → fi (3 * j + c) = g j) : ∀ d i a, i + d = m → post (nI (a + ss_ct (ss_pb g x) i d)) → wX_countDifferentBelow_5 post (nI c) x xc xr xn (nI m) R F T N o s cc cr ci cg cn ws wk wl wm fr fi (d + 1) (nI a) (nI i) := by
  intro d
  induction d with
  | zero => intro i a hi hp; exact br_t (nI_le (by omega) (by omega)) hp
  | succ d ih =>
    intro i a hi hp
    refine br_f (nI_ge (by omega) (by omega)) ?_
    rw [ss_i3, nI_clamp (n := 3 * i + c) (by omega), hg i (by omega)]
    rw [ss_ct] at hp
    refine ⟨vp_in_nI (by omega) (by decide), br_c (fun z => ?_) (fun z => xs_isFirst hm hc hg (by omega) ?_)⟩
    · rw [if_neg (by unfold ss_pb; rw [decide_eq_false (fun q => q z), Bool.false_and]; decide), Nat.zero_add] at hp
      exact nm_r (nI_1 i) (ih (i + 1) a (by omega) hp)
    · cases hb : ss_fst g (g i) 0 i with
      | false =>
        rw [if_neg (by unfold ss_pb; rw [hb, Bool.and_false]; decide), Nat.zero_add] at hp
        exact br_t rfl (nm_r (nI_1 i) (ih (i + 1) a (by omega) hp))
      | true =>
        rw [if_pos (by unfold ss_pb; rw [hb, decide_eq_true z]; rfl), ← Nat.add_assoc] at hp
        exact br_f ss_10 (nm_r (nI_1 a) (nm_r (nI_1 i) (ih (i + 1) (a + 1) (by omega) hp)))
theorem xs_below {x : Int32} (hm : m ≤ 48) (hc : c < 3) (hg : ∀ j, j < m → fi (3 * j + c) = g j) (hp : post (nI (ss_ct (ss_pb g x) 0 m))) : wpX_countDifferentBelow post (xc, xr, xn, nI m, R, F, T, N, o, s, cc, cr, ci, cg, cn, ws, wk, wl, wm, fr, fi) (nI c) x :=
  ⟨m + 1, xs_below_loop hm hc hg m 0 0 (by omega) (by rw [Nat.zero_add]; exact hp)⟩
def ss_pk (g : Nat → Int32) (m : Nat) (k : Int32) (x : Int32) : Bool := decide (nI (ss_ct (ss_pb g x) 0 m) = k)
/-- the first place of the group, or m -/
def ss_gm (g : Nat → Int32) (q : Int32 → Bool) : Nat → Nat → Nat
  | i, 0 => i
  | i, d + 1 => if q (g i) = true then i else ss_gm g q (i + 1) d
theorem xs_gm_loop {k : Int32} (hm : m ≤ 48) (hc : c < 3) (hg : ∀ j, j < m → fi (3 * j + c) = g j) : ∀ d i, i + d = m → (ss_gm g (ss_pk g m k) i d = m → post (-1)) → (ss_gm g (ss_pk g m k) i d < m → post (nI (ss_gm g (ss_pk g m k) i d))) → wX_findGroupMember_2 post (nI c) k xc xr xn (nI m) R F T N o s cc cr ci cg cn ws wk wl wm fr fi (d + 1) (nI i) := by
  intro d
  induction d with
  | zero => intro i hi h1 h2; exact br_t (nI_le (by omega) (by omega)) (h1 (by rw [ss_gm]; omega))
  | succ d ih =>
    intro i hi h1 h2
    refine br_f (nI_ge (by omega) (by omega)) ?_
    rw [ss_i3, nI_clamp (n := 3 * i + c) (by omega), hg i (by omega)]
    rw [ss_gm] at h1 h2
    refine ⟨vp_in_nI (by omega) (by decide), xs_below hm hc hg (br_c (fun z => ?_) (fun z => ?_))⟩
    · rw [if_pos (show ss_pk g m k (g i) = true from decide_eq_true z)] at h2
      exact h2 (by omega)
    · rw [if_neg (show ¬ ss_pk g m k (g i) = true from by unfold ss_pk; rw [decide_eq_false z]; decide)] at h1 h2
      exact nm_r (nI_1 i) (ih (i + 1) (by omega) h1 h2)
theorem xs_groupMember {k : Int32} (hm : m ≤ 48) (hc : c < 3) (hg : ∀ j, j < m → fi (3 * j + c) = g j) (h1 : ss_gm g (ss_pk g m k) 0 m = m → post (-1)) (h2 : ss_gm g (ss_pk g m k) 0 m < m → post (nI (ss_gm g (ss_pk g m k) 0 m))) : wpX_findGroupMember post (xc, xr, xn, nI m, R, F, T, N, o, s, cc, cr, ci, cg, cn, ws, wk, wl, wm, fr, fi) (nI c) k :=
  ⟨m + 1, xs_gm_loop hm hc hg m 0 (by omega) h1 h2⟩
theorem xs_before_loop {k : Nat} (hm : m ≤ 48) (hc : c < 3) (hg : ∀ j, j < m → fi (3 * j + c) = g j) (hr : ∀ j, j < m → fr j = p j) (hk : k < m) : ∀ d i a, i + d = m → post (nI (a + ss_ct (ss_be g p k) i d)) → wX_countBefore_17 post (nI k) (nI c) (g k) xc xr xn (nI m) R F T N o s cc cr ci cg cn ws wk wl wm fr fi (d + 1) (nI a) (nI i) := by
  intro d
  induction d with
  | zero => intro i a hi hp; exact br_t (nI_le (by omega) (by omega)) hp
  | succ d ih =>
    intro i a hi hp
    have hvi : vp_in (nI i) 48 := vp_in_nI (by omega) (by decide)
    have hvk : vp_in (nI k) 48 := vp_in_nI (by omega) (by decide)
    refine br_f (nI_ge (by omega) (by omega)) ?_
    rw [ss_i3, nI_clamp (n := 3 * i + c) (by omega), hg i (by omega), nI_clamp (n := i) (by omega), nI_clamp (n := k) (by omega), hr i (by omega), hr k hk]
    rw [ss_ct] at hp
    have g1 : ss_be g p k i = true → wX_countBefore_17 post (nI k) (nI c) (g k) xc xr xn (nI m) R F T N o s cc cr ci cg cn ws wk wl wm fr fi (d + 1) (nI (a + 1)) (nI (i + 1)) := by
      intro h
      rw [if_pos h, ← Nat.add_assoc] at hp
      exact ih (i + 1) (a + 1) (by omega) hp
    have g0 : ss_be g p k i = false → wX_countBefore_17 post (nI k) (nI c) (g k) xc xr xn (nI m) R F T N o s cc cr ci cg cn ws wk wl wm fr fi (d + 1) (nI a) (nI (i + 1)) := by
      intro h
      rw [if_neg (by rw [h]; decide), Nat.zero_add] at hp
      exact ih (i + 1) a (by omega) hp
    refine ⟨vp_in_nI (by omega) (by decide), nm_e (br_c (fun z => nm_r (nI_1 a) (nm_r (nI_1 i) (g1 ?_))) (fun z => br_c (fun z2 => ⟨hvi, hvk, br_c (fun z3 => nm_r (nI_1 i) (g0 ?_)) (fun z3 => nm_r (nI_1 a) (nm_r (nI_1 i) (g1 ?_)))⟩) (fun z2 => nm_r (nI_1 i) (g0 ?_))))⟩
    · exact decide_eq_true (Or.inl z)
    · exact decide_eq_false (fun q => q.elim z (fun q => q.2 z3))
    · exact decide_eq_true (Or.inr ⟨z2, z3⟩)
    · exact decide_eq_false (fun q => q.elim z (fun q => z2 q.1))
theorem xs_countBefore {k : Nat} (hm : m ≤ 48) (hc : c < 3) (hg : ∀ j, j < m → fi (3 * j + c) = g j) (hr : ∀ j, j < m → fr j = p j) (hk : k < m) (hp : post (nI (ss_ct (ss_be g p k) 0 m))) : wpX_countBefore post (xc, xr, xn, nI m, R, F, T, N, o, s, cc, cr, ci, cg, cn, ws, wk, wl, wm, fr, fi) (nI k) (nI c) := by
  refine ⟨by rw [ss_i3]; exact vp_in_nI (by omega) (by decide), nm_r (e' := g k) ?_ ⟨m + 1, xs_before_loop hm hc hg hr hk m 0 0 (by omega) (by rw [Nat.zero_add]; exact hp)⟩⟩
  rw [ss_i3, nI_clamp (n := 3 * k + c) (by omega), hg k hk]
theorem xs_order_loop {k : Int32} (hm : m ≤ 48) (hc : c < 3) (hg : ∀ j, j < m → fi (3 * j + c) = g j) (hr : ∀ j, j < m → fr j = p j) : ∀ d i, i + d = m → ps (ss_od p (fun j => nI (ss_ct (ss_be g p j) 0 m)) k i d) (xc, xr, xn, nI m, R, F, T, N, o, s, cc, cr, ci, cg, cn, ws, wk, wl, wm, fr, fi) → wX_order_26 ps (nI c) k xc xr xn (nI m) R F T N o s cc cr ci cg cn ws wk wl wm fr fi (d + 1) (nI i) := by
  intro d
  induction d with
  | zero => intro i hi hp; exact br_t (nI_le (by omega) (by omega)) hp
  | succ d ih =>
    intro i hi hp
    refine br_f (nI_ge (by omega) (by omega)) (xs_countBefore hm hc hg hr (by omega) ?_)
    rw [nI_clamp (n := i) (by omega), hr i (by omega)]
    rw [ss_od] at hp
    refine br_c (fun z => ⟨vp_in_nI (by omega) (by decide), ?_⟩) (fun z => ?_)
    · rw [if_pos z] at hp; exact hp
    · rw [if_neg z] at hp; exact nm_r (nI_1 i) (ih (i + 1) (by omega) hp)
theorem xs_rank_loop {row : Int32} (hm : m ≤ 48) (hc : c < 3) (hg : ∀ j, j < m → fi (3 * j + c) = g j) (hr : ∀ j, j < m → fr j = p j) : ∀ d i, i + d = m → ps (ss_od (fun j => nI (ss_ct (ss_be g p j) 0 m)) p row i d) (xc, xr, xn, nI m, R, F, T, N, o, s, cc, cr, ci, cg, cn, ws, wk, wl, wm, fr, fi) → wX_rank_26 ps (nI c) row xc xr xn (nI m) R F T N o s cc cr ci cg cn ws wk wl wm fr fi (d + 1) (nI i) := by
  intro d
  induction d with
  | zero => intro i hi hp; exact br_t (nI_le (by omega) (by omega)) hp
  | succ d ih =>
    intro i hi hp
    refine br_f (nI_ge (by omega) (by omega)) ⟨vp_in_nI (by omega) (by decide), ?_⟩
    rw [nI_clamp (n := i) (by omega), hr i (by omega)]
    rw [ss_od] at hp
    refine br_c (fun z => ?_) (fun z => ?_)
    · rw [if_pos z] at hp; exact xs_countBefore hm hc hg hr (by omega) hp
    · rw [if_neg z] at hp; exact nm_r (nI_1 i) (ih (i + 1) (by omega) hp)
variable {pq : SX → Prop}
theorem xs_keep_loop {x : Int32} (hm : m ≤ 48) (hc : c < 3) : ∀ (d i k : Nat) (fr fi : Nat → Int32), k ≤ i → i + d = m → (∀ (m' : Nat) (fr' fi' : Nat → Int32), m' ≤ m → ss_L (ss_fa fr' fi') 0 m' = ss_L (ss_fa fr fi) 0 k ++ (ss_L (ss_fa fr fi) i d).filter (fun q => decide (ss_gt q c = x)) → pq (xc, xr, xn, nI m', R, F, T, N, o, s, cc, cr, ci, cg, cn, ws, wk, wl, wm, fr', fi')) → wX_keepOnly_5 pq (nI c) x xc xr xn (nI m) (d + 1) (nI k) (nI i) R F T N o s cc cr ci cg cn ws wk wl wm fr fi := by
  intro d
  induction d with
  | zero =>
    intro i k fr fi hki hi hp
    exact br_t (nI_le (by omega) (by omega)) (hp k fr fi (by omega) (by rw [ss_L, List.filter_nil, List.append_nil]))
  | succ d ih =>
    intro i k fr fi hki hi hp
    refine br_f (nI_ge (by omega) (by omega)) ?_
    rw [ss_i3, nI_clamp (n := 3 * i + c) (by omega)]
    refine ⟨vp_in_nI (by omega) (by decide), br_c (fun z => ⟨vp_in_nI (by omega) (by decide), vp_in_nI (by omega) (by decide), nm_r (e' := upd fr k (fr i)) (by rw [nI_clamp (n := i) (by omega), nI_clamp (n := k) (by omega)]) ?_⟩) (fun z => ?_)⟩
    · obtain ⟨hfk, hfj⟩ := ss_cpyF (fr := fr) (fi := fi) (i := i) (k := k) rfl rfl
      have hz : (fun q : ss_F => decide (ss_gt q c = x)) (ss_fa fr fi i) = true := decide_eq_true (by rw [ss_gt_fa hc]; exact z)
      have hq := ih (i + 1) (k + 1) (upd fr k (fr i)) _ (by omega) (by omega) (fun m' fr' fi' hm' he => hp m' fr' fi' hm' (by
        rw [he, ss_Lsnoc, Nat.zero_add, hfk, List.append_assoc, List.singleton_append, ss_L, List.filter_cons_of_pos (p := fun q : ss_F => decide (ss_gt q c = x)) hz]
        rw [ss_Lcon (W := ss_fa fr fi) k 0 (fun j _ hj => hfj j (by omega))]
        rw [ss_Lcon (W := ss_fa fr fi) d (i + 1) (fun j hj _ => hfj j (by omega))]))
      exact ⟨4, br_f (by decide) ⟨by rw [ss_k30 i]; exact vp_in_nI (by omega) (by decide), by rw [ss_k30 k]; exact vp_in_nI (by omega) (by decide), nm_r (e' := upd fi (3 * k) (fi (3 * i))) (by rw [ss_k30 k, ss_k30 i, nI_clamp (n := 3 * k) (by omega), nI_clamp (n := 3 * i) (by omega)]) (nm_r (e' := 1) (by decide) (br_f (by decide) ⟨by rw [ss_k31 i]; exact vp_in_nI (by omega) (by decide), by rw [ss_k31 k]; exact vp_in_nI (by omega) (by decide), nm_r (e' := upd (upd fi (3 * k) (fi (3 * i))) (3 * k + 1) ((upd fi (3 * k) (fi (3 * i))) (3 * i + 1))) (by rw [ss_k31 k, ss_k31 i, nI_clamp (n := 3 * k + 1) (by omega), nI_clamp (n := 3 * i + 1) (by omega)]) (nm_r (e' := 2) (by decide) (br_f (by decide) ⟨by rw [ss_k32 i]; exact vp_in_nI (by omega) (by decide), by rw [ss_k32 k]; exact vp_in_nI (by omega) (by decide), nm_r (e' := upd (upd (upd fi (3 * k) (fi (3 * i))) (3 * k + 1) ((upd fi (3 * k) (fi (3 * i))) (3 * i + 1))) (3 * k + 2) ((upd (upd fi (3 * k) (fi (3 * i))) (3 * k + 1) ((upd fi (3 * k) (fi (3 * i))) (3 * i + 1))) (3 * i + 2))) (by rw [ss_k32 k, ss_k32 i, nI_clamp (n := 3 * k + 2) (by omega), nI_clamp (n := 3 * i + 2) (by omega)]) (nm_r (e' := 3) (by decide) (br_t (by decide) (nm_r (nI_1 k) (nm_r (nI_1 i) hq))))⟩))⟩))⟩⟩
    · refine nm_r (nI_1 i) (ih (i + 1) k fr fi (by omega) (by omega) (fun m' fr' fi' hm' he => hp m' fr' fi' hm' ?_))
      have hz : ¬ (fun q : ss_F => decide (ss_gt q c = x)) (ss_fa fr fi i) = true := by
        show ¬ decide (ss_gt (ss_fa fr fi i) c = x) = true
        rw [ss_gt_fa hc, decide_eq_false z]; decide
      rw [he, ss_L, List.filter_cons_of_neg (p := fun q : ss_F => decide (ss_gt q c = x)) hz]
theorem xs_keepOnly {x : Int32} (hm : m ≤ 48) (hc : c < 3) (hp : ∀ (m' : Nat) (fr' fi' : Nat → Int32), m' ≤ m → ss_L (ss_fa fr' fi') 0 m' = (ss_L (ss_fa fr fi) 0 m).filter (fun q => decide (ss_gt q c = x)) → pq (xc, xr, xn, nI m', R, F, T, N, o, s, cc, cr, ci, cg, cn, ws, wk, wl, wm, fr', fi')) : wpX_keepOnly pq (xc, xr, xn, nI m, R, F, T, N, o, s, cc, cr, ci, cg, cn, ws, wk, wl, wm, fr, fi) (nI c) x :=
  ⟨m + 1, xs_keep_loop hm hc m 0 0 fr fi (by omega) (by omega) (fun m' fr' fi' hm' he => hp m' fr' fi' hm' he)⟩
end
end
section
section
variable {yn yc yr yf : Int32} {R F T N o s cc cr ci cg cn yk yl ym sr si ke : Nat → Int32}
variable {p6 : Int64 → Prop} {post : Int32 → Prop} {ps : Int32 → SY → Prop} {m c : Nat} {g p : Nat → Int32}
theorem ys_first_loop {k : Nat} (hm : m ≤ 48) (hc : c < 3) (hg : ∀ j, j < m → si (3 * j + c) = g j) (hk : k < m) : ∀ d i, i + d = k → post (ss_b (ss_fst g (g k) i d)) → wY_first_2 post (nI k) (nI c) yn yc yr yf R F T N o s cc cr ci cg cn yk yl ym sr si ke (d + 1) (nI i) := by
  intro d
  induction d with
  | zero => intro i hi hp; exact br_t (nI_le (by omega) (by omega)) hp
  | succ d ih =>
    intro i hi hp
    refine br_f (nI_ge (by omega) (by omega)) ?_
    rw [ss_3i, ss_3i, nI_clamp (n := 3 * i + c) (by omega), nI_clamp (n := 3 * k + c) (by omega), hg i (by omega), hg k hk]
    rw [ss_fst] at hp
    refine ⟨vp_in_nI (by omega) (by decide), vp_in_nI (by omega) (by decide), br_c (fun z => ?_) (fun z => ?_)⟩
    · rw [decide_eq_false (fun q => q z), Bool.false_and] at hp; exact hp
    · rw [decide_eq_true z, Bool.true_and] at hp; exact nm_r (nI_1 i) (ih (i + 1) (by omega) hp)
theorem ys_first {k : Nat} (hm : m ≤ 48) (hc : c < 3) (hg : ∀ j, j < m → si (3 * j + c) = g j) (hk : k < m) (hp : post (ss_b (ss_fst g (g k) 0 k))) : wpY_first post (yn, yc, yr, yf, R, F, T, N, o, s, cc, cr, ci, cg, cn, yk, yl, ym, sr, si, ke) (nI k) (nI c) :=
  ⟨k + 1, ys_first_loop hm hc hg hk k 0 (by omega) hp⟩
theorem ys_diff_loop (hm : m ≤ 48) (hc : c < 3) (hg : ∀ j, j < m → si (3 * j + c) = g j) : ∀ d i a, i + d = m → post (nI (a + ss_ct (ss_pd g) i d)) → wY_different_4 post (nI c) yn yc yr (nI m) R F T N o s cc cr ci cg cn yk yl ym sr si ke (d + 1) (nI a) (nI i) := by
  intro d
  induction d with
  | zero => intro i a hi hp; exact br_t (nI_le (by omega) (by omega)) hp
  | succ d ih =>
    intro i a hi hp
    refine br_f (nI_ge (by omega) (by omega)) (ys_first hm hc hg (by omega) ?_)
    rw [ss_ct] at hp
    cases hb : ss_fst g (g i) 0 i with
    | false =>
      rw [if_neg (by unfold ss_pd; rw [hb]; decide), Nat.zero_add] at hp
      exact br_t rfl (nm_r (nI_1 i) (ih (i + 1) a (by omega) hp))
    | true =>
      rw [if_pos (show ss_pd g i = true from hb), ← Nat.add_assoc] at hp
      exact br_f ss_10 (nm_r (nI_1 a) (nm_r (nI_1 i) (ih (i + 1) (a + 1) (by omega) hp)))
theorem ys_different (hm : m ≤ 48) (hc : c < 3) (hg : ∀ j, j < m → si (3 * j + c) = g j) (hp : post (nI (ss_ct (ss_pd g) 0 m))) : wpY_different post (yn, yc, yr, nI m, R, F, T, N, o, s, cc, cr, ci, cg, cn, yk, yl, ym, sr, si, ke) (nI c) :=
  ⟨m + 1, ys_diff_loop hm hc hg m 0 0 (by omega) (by rw [Nat.zero_add]; exact hp)⟩
theorem ys_below_loop {x : Int32} (hm : m ≤ 48) (hc : c < 3) (hg : ∀ j, j < m → si (3 * j + c) = g j) : ∀ d i a, i + d = m → post (nI (a + ss_ct (ss_pb g x) i d)) → wY_below_5 post x (nI c) yn yc yr (nI m) R F T N o s cc cr ci cg cn yk yl ym sr si ke (d + 1) (nI a) (nI i) := by
  intro d
  induction d with
  | zero => intro i a hi hp; exact br_t (nI_le (by omega) (by omega)) hp
  | succ d ih =>
    intro i a hi hp
    refine br_f (nI_ge (by omega) (by omega)) ?_
    rw [ss_3i, nI_clamp (n := 3 * i + c) (by omega), hg i (by omega)]
    rw [ss_ct] at hp
    refine ⟨vp_in_nI (by omega) (by decide), br_c (fun z => ?_) (fun z => ys_first hm hc hg (by omega) ?_)⟩
    · rw [if_neg (by unfold ss_pb; rw [decide_eq_false (fun q => q z), Bool.false_and]; decide), Nat.zero_add] at hp
      exact nm_r (nI_1 i) (ih (i + 1) a (by omega) hp)
    · cases hb : ss_fst g (g i) 0 i with
      | false =>
        rw [if_neg (by unfold ss_pb; rw [hb, Bool.and_false]; decide), Nat.zero_add] at hp
        exact br_t rfl (nm_r (nI_1 i) (ih (i + 1) a (by omega) hp))
      | true =>
        rw [if_pos (by unfold ss_pb; rw [hb, decide_eq_true z]; rfl), ← Nat.add_assoc] at hp
        exact br_f ss_10 (nm_r (nI_1 a) (nm_r (nI_1 i) (ih (i + 1) (a + 1) (by omega) hp)))
theorem ys_below {x : Int32} (hm : m ≤ 48) (hc : c < 3) (hg : ∀ j, j < m → si (3 * j + c) = g j) (hp : post (nI (ss_ct (ss_pb g x) 0 m))) : wpY_below post (yn, yc, yr, nI m, R, F, T, N, o, s, cc, cr, ci, cg, cn, yk, yl, ym, sr, si, ke) x (nI c) :=
  ⟨m + 1, ys_below_loop hm hc hg m 0 0 (by omega) (by rw [Nat.zero_add]; exact hp)⟩
theorem ys_before {i k : Nat} (hm : m ≤ 48) (hc : c < 3) (hg : ∀ j, j < m → si (3 * j + c) = g j) (hr : ∀ j, j < m → sr j = p j) (hi : i < m) (hk : k < m) (hp : post (ss_b (ss_be g p k i))) : wpY_before post (yn, yc, yr, yf, R, F, T, N, o, s, cc, cr, ci, cg, cn, yk, yl, ym, sr, si, ke) (nI i) (nI k) (nI c) := by
  have hvi : vp_in (nI i) 64 := vp_in_nI (by omega) (by decide)
  have hvk : vp_in (nI k) 64 := vp_in_nI (by omega) (by decide)
  unfold wpY_before; dsimp only
  rw [ss_3i, ss_3i, nI_clamp (n := 3 * i + c) (by omega), nI_clamp (n := 3 * k + c) (by omega), hg i hi, hg k hk, nI_clamp (n := i) (by omega), nI_clamp (n := k) (by omega), hr i hi, hr k hk]
  refine ⟨vp_in_nI (by omega) (by decide), nm_e ⟨vp_in_nI (by omega) (by decide), nm_e (br_c (fun z => ?_) (fun z => br_c (fun z2 => ⟨hvi, hvk, br_c (fun z3 => ?_) (fun z3 => ?_)⟩) (fun z2 => ?_)))⟩⟩
  · rw [show ss_be g p k i = true from decide_eq_true (Or.inl z)] at hp; exact hp
  · rw [show ss_be g p k i = false from decide_eq_false (fun q => q.elim z (fun q => q.2 z3))] at hp; exact hp
  · rw [show ss_be g p k i = true from decide_eq_true (Or.inr ⟨z2, z3⟩)] at hp; exact hp
  · rw [show ss_be g p k i = false from decide_eq_false (fun q => q.elim z (fun q => z2 q.1))] at hp; exact hp
theorem ys_rank_loop {k : Nat} (hm : m ≤ 48) (hc : c < 3) (hg : ∀ j, j < m → si (3 * j + c) = g j) (hr : ∀ j, j < m → sr j = p j) (hk : k < m) : ∀ d i a, i + d = m → post (nI (a + ss_ct (ss_be g p k) i d)) → wY_rankOf_5 post (nI k) (nI c) yn yc yr (nI m) R F T N o s cc cr ci cg cn yk yl ym sr si ke (d + 1) (nI a) (nI i) := by
  intro d
  induction d with
  | zero => intro i a hi hp; exact br_t (nI_le (by omega) (by omega)) hp
  | succ d ih =>
    intro i a hi hp
    refine br_f (nI_ge (by omega) (by omega)) (ys_before hm hc hg hr (by omega) hk ?_)
    rw [ss_ct] at hp
    cases hb : ss_be g p k i with
    | false =>
      rw [if_neg (by rw [hb]; decide), Nat.zero_add] at hp
      exact br_t rfl (nm_r (nI_1 i) (ih (i + 1) a (by omega) hp))
    | true =>
      rw [if_pos hb, ← Nat.add_assoc] at hp
      exact br_f ss_10 (nm_r (nI_1 a) (nm_r (nI_1 i) (ih (i + 1) (a + 1) (by omega) hp)))
theorem ys_rankOf {k : Nat} (hm : m ≤ 48) (hc : c < 3) (hg : ∀ j, j < m → si (3 * j + c) = g j) (hr : ∀ j, j < m → sr j = p j) (hk : k < m) (hp : post (nI (ss_ct (ss_be g p k) 0 m))) : wpY_rankOf post (yn, yc, yr, nI m, R, F, T, N, o, s, cc, cr, ci, cg, cn, yk, yl, ym, sr, si, ke) (nI k) (nI c) :=
  ⟨m + 1, ys_rank_loop hm hc hg hr hk m 0 0 (by omega) (by rw [Nat.zero_add]; exact hp)⟩
theorem ys_orderl {k : Int32} (hm : m ≤ 48) (hc : c < 3) (hg : ∀ j, j < m → si (3 * j + c) = g j) (hr : ∀ j, j < m → sr j = p j) : ∀ d i, i + d = m → ps (ss_od p (fun j => nI (ss_ct (ss_be g p j) 0 m)) k i d) (yn, yc, yr, nI m, R, F, T, N, o, s, cc, cr, ci, cg, cn, yk, yl, ym, sr, si, ke) → wY_order_22 ps (nI c) k yn yc yr (nI m) R F T N o s cc cr ci cg cn yk yl ym sr si ke (d + 1) (nI i) := by
  intro d
  induction d with
  | zero => intro i hi hp; exact br_t (nI_le (by omega) (by omega)) hp
  | succ d ih =>
    intro i hi hp
    refine br_f (nI_ge (by omega) (by omega)) (ys_rankOf hm hc hg hr (by omega) ?_)
    rw [nI_clamp (n := i) (by omega), hr i (by omega)]
    rw [ss_od] at hp
    refine br_c (fun z => ⟨vp_in_nI (by omega) (by decide), ?_⟩) (fun z => ?_)
    · rw [if_pos z] at hp; exact hp
    · rw [if_neg z] at hp; exact nm_r (nI_1 i) (ih (i + 1) (by omega) hp)
theorem ys_rankl {row : Int32} (hm : m ≤ 48) (hc : c < 3) (hg : ∀ j, j < m → si (3 * j + c) = g j) (hr : ∀ j, j < m → sr j = p j) : ∀ d i, i + d = m → ps (ss_od (fun j => nI (ss_ct (ss_be g p j) 0 m)) p row i d) (yn, yc, yr, nI m, R, F, T, N, o, s, cc, cr, ci, cg, cn, yk, yl, ym, sr, si, ke) → wY_rank_22 ps (nI c) row yn yc yr (nI m) R F T N o s cc cr ci cg cn yk yl ym sr si ke (d + 1) (nI i) := by
  intro d
  induction d with
  | zero => intro i hi hp; exact br_t (nI_le (by omega) (by omega)) hp
  | succ d ih =>
    intro i hi hp
    refine br_f (nI_ge (by omega) (by omega)) ⟨vp_in_nI (by omega) (by decide), ?_⟩
    rw [nI_clamp (n := i) (by omega), hr i (by omega)]
    rw [ss_od] at hp
    refine br_c (fun z => ?_) (fun z => ?_)
    · rw [if_pos z] at hp; exact ys_rankOf hm hc hg hr (by omega) hp
    · rw [if_neg z] at hp; exact nm_r (nI_1 i) (ih (i + 1) (by omega) hp)
theorem ys_total_loop {q : Int32} (hm : m ≤ 48) (hc : c < 3) (hg : ∀ j, j < m → si (3 * j + c) = g j) : ∀ d i a b e, i + d = m → ((q = 0 → p6 (nI m).toInt64) ∧ (¬ q = 0 → ((q = 1 → p6 (ss_sum g i d a)) ∧ (¬ q = 1 → ((q = 2 → p6 (ss_min g i d b).toInt64) ∧ (¬ q = 2 → p6 (ss_max g i d e).toInt64)))))) → wY_total_21 p6 (nI c) q yn yc yr (nI m) R F T N o s cc cr ci cg cn yk yl ym sr si ke (d + 1) a b e (nI i) := by
  intro d
  induction d with
  | zero => intro i a b e hi hp; exact br_t (nI_le (by omega) (by omega)) hp
  | succ d ih =>
    intro i a b e hi hp
    refine br_f (nI_ge (by omega) (by omega)) ?_
    rw [ss_3i, nI_clamp (n := 3 * i + c) (by omega), hg i (by omega)]
    rw [ss_sum, ss_min, ss_max] at hp
    refine ⟨vp_in_nI (by omega) (by decide), nm_e (nm_e (br_c (fun z => ?_) (fun z => ?_)))⟩
    · rw [if_pos z] at hp
      refine br_c (fun z2 => ?_) (fun z2 => ?_)
      · rw [if_pos z2] at hp; exact nm_r (nI_1 i) (ih (i + 1) _ _ _ (by omega) hp)
      · rw [if_neg z2] at hp; exact nm_r (nI_1 i) (ih (i + 1) _ _ _ (by omega) hp)
    · rw [if_neg z] at hp
      refine br_c (fun z2 => ?_) (fun z2 => ?_)
      · rw [if_pos z2] at hp; exact nm_r (nI_1 i) (ih (i + 1) _ _ _ (by omega) hp)
      · rw [if_neg z2] at hp; exact nm_r (nI_1 i) (ih (i + 1) _ _ _ (by omega) hp)
theorem ys_total {q : Int32} (hm : m ≤ 48) (h0 : 0 < m) (hc : c < 3) (hg : ∀ j, j < m → si (3 * j + c) = g j) (hp : ((q = 0 → p6 (nI m).toInt64) ∧ (¬ q = 0 → ((q = 1 → p6 (ss_sum g 0 m 0)) ∧ (¬ q = 1 → ((q = 2 → p6 (ss_mn g m).toInt64) ∧ (¬ q = 2 → p6 (ss_mx g m).toInt64))))))) : wpY_total p6 (yn, yc, yr, nI m, R, F, T, N, o, s, cc, cr, ci, cg, cn, yk, yl, ym, sr, si, ke) (nI c) q := by
  obtain ⟨d, rfl⟩ : ∃ d, m = d + 1 := ⟨m - 1, by omega⟩
  have h1 := hg 0 (by omega)
  rw [Nat.mul_zero, Nat.zero_add] at h1
  have hv : vp_in (nI c) 192 := vp_in_nI (by omega) (by decide)
  refine ⟨hv, nm_r (e' := g 0) (by rw [nI_clamp (by omega), h1]) ⟨hv, nm_r (e' := g 0) (by rw [nI_clamp (by omega), h1]) ⟨d + 2, ys_total_loop hm hc hg (d + 1) 0 0 (g 0) (g 0) (by omega) ?_⟩⟩⟩
  have e1 : ss_min g 0 (d + 1) (g 0) = ss_mn g (d + 1) := by rw [ss_min, ite_self]; rfl
  have e2 : ss_max g 0 (d + 1) (g 0) = ss_mx g (d + 1) := by rw [ss_max, ite_self]; rfl
  rw [e1, e2]
  exact hp
end
theorem ss_ask_who {k ck rc : Nat} {o s cc cr ci : Nat → Int32} {LX LY : List ss_V} {p : Int32} (h : ss_I k ck rc o s cc cr ci LX LY) (ha : p = -1 ∨ ss_op o p) : ∃ (t cnt : Nat) (tm : Int32), ss_who (nI ck) s cc p t cnt tm ∧ (∀ v, ss_hd v tm = true → ss_lv (nI ck) o s v = true) := by
  rcases ha with rfl | ⟨t, ht, rfl, hot⟩
  · exact ⟨0, 0, nI ck, Or.inl ⟨rfl, rfl, rfl, rfl⟩, ss_hd_live⟩
  · obtain ⟨hcc, h8, _⟩ := h.2.2.2.2.2.2.1 t ht hot
    exact ⟨t, ss_n cc t, s t, Or.inr ⟨rfl, ht, hcc, h8, rfl⟩, fun v hv => ss_lv_t ht hot hv⟩
theorem ss_Q_eq {c tm : Int32} {o s cr cn cg ws wk wl wm yk yl ym : Nat → Int32} {t cnt : Nat} {LX LY : List ss_V} (h : LX.filter (ss_lv c o s) = LY.filter (ss_lv c o s)) (hl : ∀ v, ss_hd v tm = true → ss_lv c o s v = true) (hw : ss_wr ws wk wl wm yk yl ym) :
    ss_Q cr cn cg t cnt tm (fun q => ss_pX ws wk wl wm q 0 2) LX = ss_Q cr cn cg t cnt tm (fun q => ss_pY yk yl ym q 0 2) LY := by
  have e : (fun q => ss_pX ws wk wl wm q 0 2) = (fun q => ss_pY yk yl ym q 0 2) := funext (fun q => ss_p_eq hw q)
  have e2 : LX.filter (ss_P cr t cnt tm) = LY.filter (ss_P cr t cnt tm) := by
    refine ss_flt' h (fun v hv => hl v ?_)
    unfold ss_P at hv
    rw [Bool.and_eq_true] at hv
    exact hv.1
  unfold ss_Q
  rw [e, e2]
theorem ss_wr_x {ws wk wl wm yk yl ym : Nat → Int32} (hw : ss_wr ws wk wl wm yk yl ym) : ∀ j, j < 2 → ∃ c, c < 3 ∧ wk j = nI c := fun j hj => (hw j hj).1
theorem ss_wr_y {ws wk wl wm yk yl ym : Nat → Int32} (hw : ss_wr ws wk wl wm yk yl ym) : ∀ j, j < 2 → yk j < 0 ∨ ∃ c, c < 3 ∧ yk j = nI c := by
  intro j hj
  obtain ⟨⟨c, hc, e⟩, h⟩ := hw j hj
  rcases h with h | h
  · exact Or.inl h.2
  · exact Or.inr ⟨c, hc, by rw [h.2.1, e]⟩
theorem ss_agree {fr fi sr si : Nat → Int32} {m m' : Nat} {Q : List ss_F} (h1 : ss_L (ss_fa fr fi) 0 m = Q) (h2 : ss_L (ss_fa sr si) 0 m' = Q) : m' = m ∧ (∀ j, j < m → sr j = fr j) ∧ (∀ c, c < 3 → ∀ j, j < m → si (3 * j + c) = fi (3 * j + c)) := by
  have e : m' = m := by
    have a := congrArg List.length h1
    have b := congrArg List.length h2
    rw [ss_Llen] at a b
    omega
  subst e
  have hj := ss_Linj m' 0 (h2.trans h1.symm)
  refine ⟨rfl, fun j hm => ?_, fun c hc j hm => ?_⟩
  · have := hj j (by omega) (by omega)
    exact congrArg (fun q : ss_F => q.1) this
  · have := hj j (by omega) (by omega)
    rw [← ss_gt_fa (fr := sr) (fi := si) (i := j) hc, this, ss_gt_fa hc]
theorem i_vc_order {k : Nat} {u : SX} {v : SY} (I : i_Rel k u v) (hk : k + 6 ≤ 3072) (v1 : Int32) (v2 : Int32) (v3 : Int32) : wpX_order (fun r u' => wpY_order (fun r' v' => r' = r ∧ i_Rel (k + 6) u' v') v v1 v2 v3) u v1 v2 v3 := by
  obtain ⟨ck, rc, nx, ny, xf, yf, R, F, T, N, VR, VF, VT, VN, o, s, cc, cr, ci, cg, cn, ws, wk, wl, wm, fr, fi, yk, yl, ym, sr, si, ke, rfl, rfl, h1, h2, h3, h4⟩ := I
  unfold wpX_order wpY_order; dsimp only
  by_cases ha : v1 = -1 ∨ ss_op o v1
  · refine xs_canAsk_t ha (br_f ss_10 ?_)
    obtain ⟨t, cnt, tm, hwho, hlive⟩ := ss_ask_who h3 ha
    by_cases hcol : ss_am v2 3
    · refine xs_isColumn_t hcol (br_f ss_10 (xs_findRows h1 rfl hwho (ss_wr_x h4) (fun m fr' fi' hm he => ?_)))
      dsimp only
      have hcol' := hcol
      obtain ⟨c, hc, rfl⟩ := hcol'
      refine ⟨m + 1, xs_order_loop hm hc (fun j _ => rfl) (fun j _ => rfl) m 0 (by omega) ?_⟩
      refine ys_look h2 rfl ha hwho (ss_wr_y h4) (fun m' sr' si' he' => ?_)
      dsimp only
      rw [← ss_Q_eq h3.2.2.1 hlive h4] at he'
      obtain ⟨rfl, hr, hg⟩ := ss_agree he he'
      exact br_f ss_10 (ys_among_t (n := 3) rfl (by decide) hcol (br_f ss_10 ⟨m' + 1, ys_orderl hm hc (hg c hc) hr m' 0 (by omega) ⟨rfl, ss_mk h1 h2 (ss_I_up h3) h4⟩⟩))
    · refine xs_isColumn_f hcol (br_t rfl (ys_look h2 rfl ha hwho (ss_wr_y h4) (fun m' sr' si' he' => ?_)))
      exact br_f ss_10 (ys_among_f (n := 3) rfl (by decide) hcol (br_t rfl ⟨rfl, ss_mk h1 h2 (ss_I_up h3) h4⟩))
  · exact xs_canAsk_f ha (br_t rfl (ys_look_f ha (br_t rfl ⟨rfl, ss_mk h1 h2 (ss_I_up h3) h4⟩)))
theorem i_vc_rank {k : Nat} {u : SX} {v : SY} (I : i_Rel k u v) (hk : k + 6 ≤ 3072) (v1 : Int32) (v2 : Int32) (v3 : Int32) : wpX_rank (fun r u' => wpY_rank (fun r' v' => r' = r ∧ i_Rel (k + 6) u' v') v v1 v2 v3) u v1 v2 v3 := by
  obtain ⟨ck, rc, nx, ny, xf, yf, R, F, T, N, VR, VF, VT, VN, o, s, cc, cr, ci, cg, cn, ws, wk, wl, wm, fr, fi, yk, yl, ym, sr, si, ke, rfl, rfl, h1, h2, h3, h4⟩ := I
  unfold wpX_rank wpY_rank; dsimp only
  by_cases ha : v1 = -1 ∨ ss_op o v1
  · refine xs_canAsk_t ha (br_f ss_10 ?_)
    obtain ⟨t, cnt, tm, hwho, hlive⟩ := ss_ask_who h3 ha
    by_cases hcol : ss_am v2 3
    · refine xs_isColumn_t hcol (br_f ss_10 (xs_findRows h1 rfl hwho (ss_wr_x h4) (fun m fr' fi' hm he => ?_)))
      dsimp only
      have hcol' := hcol
      obtain ⟨c, hc, rfl⟩ := hcol'
      refine ⟨m + 1, xs_rank_loop hm hc (fun j _ => rfl) (fun j _ => rfl) m 0 (by omega) ?_⟩
      refine ys_look h2 rfl ha hwho (ss_wr_y h4) (fun m' sr' si' he' => ?_)
      dsimp only
      rw [← ss_Q_eq h3.2.2.1 hlive h4] at he'
      obtain ⟨rfl, hr, hg⟩ := ss_agree he he'
      exact br_f ss_10 (ys_among_t (n := 3) rfl (by decide) hcol (br_f ss_10 ⟨m' + 1, ys_rankl hm hc (hg c hc) hr m' 0 (by omega) ⟨rfl, ss_mk h1 h2 (ss_I_up h3) h4⟩⟩))
    · refine xs_isColumn_f hcol (br_t rfl (ys_look h2 rfl ha hwho (ss_wr_y h4) (fun m' sr' si' he' => ?_)))
      exact br_f ss_10 (ys_among_f (n := 3) rfl (by decide) hcol (br_t rfl ⟨rfl, ss_mk h1 h2 (ss_I_up h3) h4⟩))
  · exact xs_canAsk_f ha (br_t rfl (ys_look_f ha (br_t rfl ⟨rfl, ss_mk h1 h2 (ss_I_up h3) h4⟩)))
theorem i_vc_ask {k : Nat} {u : SX} {v : SY} (I : i_Rel k u v) (hk : k + 6 ≤ 3072) (v1 : Int32) (v2 : Int32) (v3 : Int32) : wpX_ask (fun r u' => wpY_ask (fun r' v' => r' = r ∧ i_Rel (k + 6) u' v') v v1 v2 v3) u v1 v2 v3 := by
  obtain ⟨ck, rc, nx, ny, xf, yf, R, F, T, N, VR, VF, VT, VN, o, s, cc, cr, ci, cg, cn, ws, wk, wl, wm, fr, fi, yk, yl, ym, sr, si, ke, rfl, rfl, h1, h2, h3, h4⟩ := I
  unfold wpX_ask wpY_ask; dsimp only
  by_cases ha : v1 = -1 ∨ ss_op o v1
  · refine xs_canAsk_t ha (br_f ss_10 ?_)
    obtain ⟨t, cnt, tm, hwho, hlive⟩ := ss_ask_who h3 ha
    by_cases hcol : ss_am v3 3
    · refine xs_isColumn_t hcol (br_f ss_10 (xs_findRows h1 rfl hwho (ss_wr_x h4) (fun m fr' fi' hm he => ?_)))
      dsimp only
      have hcol' := hcol
      obtain ⟨c, hc, rfl⟩ := hcol'
      by_cases hwhat : ss_am v2 5
      · -- the reference's answer
        have hY : ∀ r : Int64, (m = 0 → r = 0) → (0 < m → v2 = 4 → r = (nI (ss_ct (ss_pd (fun j => fi' (3 * j + c))) 0 m)).toInt64) → (0 < m → ¬ v2 = 4 → ((v2 = 0 → r = (nI m).toInt64) ∧ (¬ v2 = 0 → ((v2 = 1 → r = ss_sum (fun j => fi' (3 * j + c)) 0 m 0) ∧ (¬ v2 = 1 → ((v2 = 2 → r = (ss_mn (fun j => fi' (3 * j + c)) m).toInt64) ∧ (¬ v2 = 2 → r = (ss_mx (fun j => fi' (3 * j + c)) m).toInt64))))))) → wpY_ask (fun r' v' => r' = r ∧ i_Rel (k + 6) (nI ck, nI rc, nI nx, nI m, R, F, T, N, o, s, cc, cr, ci, cg, cn, ws, wk, wl, wm, fr', fi') v') (nI ny, nI ck, nI rc, yf, VR, VF, VT, VN, o, s, cc, cr, ci, cg, cn, yk, yl, ym, sr, si, ke) v1 v2 (nI c) := by
          intro r q0 q4 q3
          unfold wpY_ask; dsimp only
          refine ys_look h2 rfl ha hwho (ss_wr_y h4) (fun m' sr' si' he' => ?_)
          dsimp only
          rw [← ss_Q_eq h3.2.2.1 hlive h4] at he'
          obtain ⟨rfl, hr, hg⟩ := ss_agree he he'
          have hR : i_Rel (k + 6) (nI ck, nI rc, nI nx, nI m', R, F, T, N, o, s, cc, cr, ci, cg, cn, ws, wk, wl, wm, fr', fi') (nI ny, nI ck, nI rc, nI m', VR, VF, VT, VN, o, s, cc, cr, ci, cg, cn, yk, yl, ym, sr', si', ke) := ss_mk h1 h2 (ss_I_up h3) h4
          refine br_f ss_10 (ys_among_t (n := 3) rfl (by decide) hcol (br_f ss_10 (ys_among_t (n := 5) rfl (by decide) hwhat (br_f ss_10 ?_))))
          by_cases hm0 : m' = 0
          · exact br_t (by rw [hm0]; rfl) ⟨(q0 hm0).symm, hR⟩
          · refine br_f (nI_ne0 (by omega) (by omega)) (br_c (fun z => ys_different hm hc (hg c hc) ⟨(q4 (by omega) z).symm, hR⟩) (fun z => ys_total hm (by omega) hc (hg c hc) ?_))
            obtain ⟨a1, a2⟩ := q3 (by omega) z
            exact ⟨fun w => ⟨(a1 w).symm, hR⟩, fun w => ⟨fun w1 => ⟨((a2 w).1 w1).symm, hR⟩, fun w1 => ⟨fun w2 => ⟨(((a2 w).2 w1).1 w2).symm, hR⟩, fun w2 => ⟨(((a2 w).2 w1).2 w2).symm, hR⟩⟩⟩⟩
        have hcase : v2 = 0 ∨ v2 = 1 ∨ v2 = 2 ∨ v2 = 3 ∨ v2 = 4 := by
          obtain ⟨j, hj, rfl⟩ := hwhat
          match j, hj with
          | 0, _ => exact Or.inl rfl
          | 1, _ => exact Or.inr (Or.inl rfl)
          | 2, _ => exact Or.inr (Or.inr (Or.inl rfl))
          | 3, _ => exact Or.inr (Or.inr (Or.inr (Or.inl rfl)))
          | 4, _ => exact Or.inr (Or.inr (Or.inr (Or.inr rfl)))
        rcases hcase with rfl | rfl | rfl | rfl | rfl
        · refine br_f (by decide) (br_f (by decide) (br_t rfl (hY _ (fun e => by rw [e]; rfl) (fun _ z => absurd z (by decide)) (fun _ _ => br_t rfl rfl))))
        · refine br_f (by decide) (br_f (by decide) (br_f (by decide) (br_t rfl (xs_sumOf hm hc (fun j _ => rfl) (hY _ (fun e => by rw [e]; rfl) (fun _ z => absurd z (by decide)) (fun _ _ => br_f (by decide) (br_t rfl rfl)))))))
        · refine br_f (by decide) (br_f (by decide) (br_f (by decide) (br_f (by decide) (br_t rfl (xs_leastOf hm hc (fun j _ => rfl) (hY _ (fun e => by rw [e]; rfl) (fun _ z => absurd z (by decide)) (fun _ _ => br_f (by decide) (br_f (by decide) (br_t rfl rfl)))))))))
        · refine br_f (by decide) (br_f (by decide) (br_f (by decide) (br_f (by decide) (br_f (by decide) (br_t rfl (xs_greatestOf hm hc (fun j _ => rfl) (hY _ (fun e => by rw [e]; rfl) (fun _ z => absurd z (by decide)) (fun _ _ => br_f (by decide) (br_f (by decide) (br_f (by decide) rfl))))))))))
        · refine br_f (by decide) (br_f (by decide) (br_f (by decide) (br_f (by decide) (br_f (by decide) (br_f (by decide) (br_t rfl (xs_countDifferent hm hc (fun j _ => rfl) (hY _ (fun e => by rw [e]; rfl) (fun _ _ => rfl) (fun _ z => absurd rfl z)))))))))
      · have hY : wpY_ask (fun r' v' => r' = 0 ∧ i_Rel (k + 6) (nI ck, nI rc, nI nx, nI m, R, F, T, N, o, s, cc, cr, ci, cg, cn, ws, wk, wl, wm, fr', fi') v') (nI ny, nI ck, nI rc, yf, VR, VF, VT, VN, o, s, cc, cr, ci, cg, cn, yk, yl, ym, sr, si, ke) v1 v2 (nI c) := by
          unfold wpY_ask; dsimp only
          refine ys_look h2 rfl ha hwho (ss_wr_y h4) (fun m' sr' si' he' => ?_)
          exact br_f ss_10 (ys_among_t (n := 3) rfl (by decide) hcol (br_f ss_10 (ys_among_f (n := 5) rfl (by decide) hwhat (br_t rfl ⟨rfl, ss_mk h1 h2 (ss_I_up h3) h4⟩))))
        exact br_c (fun _ => hY) (fun _ => br_c (fun _ => hY) (fun _ => br_f (fun z => hwhat ⟨0, by decide, z⟩) (br_f (fun z => hwhat ⟨1, by decide, z⟩) (br_f (fun z => hwhat ⟨2, by decide, z⟩) (br_f (fun z => hwhat ⟨3, by decide, z⟩) (br_f (fun z => hwhat ⟨4, by decide, z⟩) trivial))))))
    · refine xs_isColumn_f hcol (br_t rfl (ys_look h2 rfl ha hwho (ss_wr_y h4) (fun m' sr' si' he' => ?_)))
      exact br_f ss_10 (ys_among_f (n := 3) rfl (by decide) hcol (br_t rfl ⟨rfl, ss_mk h1 h2 (ss_I_up h3) h4⟩))
  · exact xs_canAsk_f ha (br_t rfl (ys_look_f ha (br_t rfl ⟨rfl, ss_mk h1 h2 (ss_I_up h3) h4⟩)))
end
section
def ss_kp (g h : Nat → Int32) (q : Int32 → Bool) : Nat → Nat → List Int32
  | _, 0 => []
  | i, d + 1 => if q (g i) = true then h i :: ss_kp g h q (i + 1) d else ss_kp g h q (i + 1) d
theorem ss_kp_congr {g h : Nat → Int32} {q q' : Int32 → Bool} : ∀ d i, (∀ j, i ≤ j → j < i + d → q (g j) = q' (g j)) → ss_kp g h q i d = ss_kp g h q' i d := by
  intro d
  induction d with
  | zero => intro i _; rfl
  | succ d ih =>
    intro i hh
    rw [ss_kp, ss_kp, hh i (by omega) (by omega), ih (i + 1) (fun j h1 h2 => hh j (by omega) (by omega))]
theorem ss_kp_nil {g h : Nat → Int32} {q : Int32 → Bool} : ∀ d i, (∀ j, i ≤ j → j < i + d → q (g j) = false) → ss_kp g h q i d = [] := by
  intro d
  induction d with
  | zero => intro i _; rfl
  | succ d ih =>
    intro i hh
    rw [ss_kp, if_neg (by rw [hh i (by omega) (by omega)]; decide)]
    exact ih (i + 1) (fun j h1 h2 => hh j (by omega) (by omega))
theorem ss_kp_map {fr fi : Nat → Int32} {b c : Nat} {x : Int32} (hb : b < 3) (hc : c < 3) : ∀ d i, ((ss_L (ss_fa fr fi) i d).filter (fun q => decide (ss_gt q b = x))).map (fun q => ss_gt q c) = ss_kp (fun j => fi (3 * j + b)) (fun j => fi (3 * j + c)) (fun y => decide (y = x)) i d := by
  intro d
  induction d with
  | zero => intro i; rfl
  | succ d ih =>
    intro i
    rw [ss_L, ss_kp]
    by_cases z : fi (3 * i + b) = x
    · rw [List.filter_cons_of_pos (p := fun q : ss_F => decide (ss_gt q b = x)) (show decide (ss_gt (ss_fa fr fi i) b = x) = true from decide_eq_true (by rw [ss_gt_fa hb]; exact z)), List.map_cons, ih, ss_gt_fa hc, if_pos (decide_eq_true z)]
    · rw [List.filter_cons_of_neg (p := fun q : ss_F => decide (ss_gt q b = x)) (show ¬ decide (ss_gt (ss_fa fr fi i) b = x) = true from by rw [ss_gt_fa hb, decide_eq_false z]; decide), ih, if_neg (by rw [decide_eq_false z]; decide)]
theorem ss_gm_spec {g : Nat → Int32} {q : Int32 → Bool} : ∀ d i, (ss_gm g q i d = i + d ∧ ∀ j, i ≤ j → j < i + d → q (g j) = false) ∨ (ss_gm g q i d < i + d ∧ q (g (ss_gm g q i d)) = true) := by
  intro d
  induction d with
  | zero => intro i; exact Or.inl ⟨rfl, fun j h1 h2 => by omega⟩
  | succ d ih =>
    intro i
    rw [ss_gm]
    by_cases z : q (g i) = true
    · rw [if_pos z]; exact Or.inr ⟨by omega, z⟩
    · rw [if_neg z]
      rcases ih (i + 1) with ⟨h1, h2⟩ | ⟨h1, h2⟩
      · refine Or.inl ⟨by omega, fun j hj1 hj2 => ?_⟩
        by_cases e : j = i
        · subst e; exact Bool.of_not_eq_true z
        · exact h2 j (by omega) (by omega)
      · exact Or.inr ⟨by omega, h2⟩
theorem ss_ct_mono {p q : Nat → Bool} : ∀ d i, (∀ j, i ≤ j → j < i + d → p j = true → q j = true) → ss_ct p i d ≤ ss_ct q i d := by
  intro d
  induction d with
  | zero => intro i _; exact Nat.le_refl 0
  | succ d ih =>
    intro i h
    have h1 := ih (i + 1) (fun j h1 h2 => h j (by omega) (by omega))
    rw [ss_ct, ss_ct]
    by_cases z : p i = true
    · rw [if_pos z, if_pos (h i (by omega) (by omega) z)]; omega
    · rw [if_neg z]; omega
theorem ss_ct_lt {p q : Nat → Bool} : ∀ d i, (∀ j, i ≤ j → j < i + d → p j = true → q j = true) → (∃ j, i ≤ j ∧ j < i + d ∧ q j = true ∧ p j = false) → ss_ct p i d < ss_ct q i d := by
  intro d
  induction d with
  | zero => intro i _ ⟨j, h1, h2, _⟩; omega
  | succ d ih =>
    intro i h ⟨j, h1, h2, h3, h4⟩
    rw [ss_ct, ss_ct]
    by_cases e : j = i
    · subst e
      have h5 := ss_ct_mono (p := p) (q := q) d (j + 1) (fun l h6 h7 => h l (by omega) (by omega))
      rw [if_pos h3, if_neg (by rw [h4]; decide)]; omega
    · have h5 := ih (i + 1) (fun l h6 h7 => h l (by omega) (by omega)) ⟨j, by omega, by omega, h3, h4⟩
      by_cases z : p i = true
      · rw [if_pos z, if_pos (h i (by omega) (by omega) z)]; omega
      · rw [if_neg z]; omega
theorem ss_fst_iff {g : Nat → Int32} {x : Int32} : ∀ d i, ss_fst g x i d = true ↔ ∀ j, i ≤ j → j < i + d → ¬ g j = x := by
  intro d
  induction d with
  | zero => intro i; exact ⟨fun _ j h1 h2 => by omega, fun _ => rfl⟩
  | succ d ih =>
    intro i
    rw [ss_fst, Bool.and_eq_true, decide_eq_true_iff, ih]
    constructor
    · intro ⟨h1, h2⟩ j hj1 hj2
      by_cases e : j = i
      · subst e; exact h1
      · exact h2 j (by omega) (by omega)
    · intro h
      exact ⟨h i (by omega) (by omega), fun j h1 h2 => h j (by omega) (by omega)⟩
theorem ss_fst_ex {g : Nat → Int32} {x : Int32} : ∀ i, g i = x → ∃ j, j ≤ i ∧ g j = x ∧ ss_fst g x 0 j = true := by
  intro i
  induction i using Nat.strongRecOn with
  | _ i ih =>
    intro h
    by_cases z : ∃ l, l < i ∧ g l = x
    · obtain ⟨l, hl, h2⟩ := z
      obtain ⟨j, h3, h4⟩ := ih l hl h2
      exact ⟨j, by omega, h4⟩
    · exact ⟨i, Nat.le_refl i, h, (ss_fst_iff i 0).mpr (fun j _ h2 h3 => z ⟨j, by omega, h3⟩)⟩
theorem ss_bl_lt {g : Nat → Int32} {m i : Nat} {x y : Int32} (hi : i < m) (hx : g i = x) (h : x.toInt < y.toInt) : ss_ct (ss_pb g x) 0 m < ss_ct (ss_pb g y) 0 m := by
  have hp : ∀ (z : Int32) (j : Nat), ss_pb g z j = true ↔ ((g j).toInt < z.toInt ∧ ss_fst g (g j) 0 j = true) := by
    intro z j
    unfold ss_pb
    rw [Bool.and_eq_true, decide_eq_true_iff, ss_le]
    constructor
    · intro ⟨a, b⟩; exact ⟨by omega, b⟩
    · intro ⟨a, b⟩; exact ⟨by omega, b⟩
  refine ss_ct_lt m 0 (fun j _ _ hj => ?_) ?_
  · rw [hp] at hj
    rw [hp]
    exact ⟨by omega, hj.2⟩
  · obtain ⟨j, h1, h2, h3⟩ := ss_fst_ex i hx
    refine ⟨j, by omega, by omega, ?_, ?_⟩
    · rw [hp, h2]; exact ⟨h, h3⟩
    · refine Bool.of_not_eq_true (fun hz => ?_)
      rw [hp, h2] at hz
      omega
theorem ss_pk_eq {g : Nat → Int32} {m i j : Nat} {k : Int32} (hm : m ≤ 48) (hi : i < m) (hj : j < m) (hk : ss_pk g m k (g j) = true) : ss_pk g m k (g i) = decide (g i = g j) := by
  have hk' : nI (ss_ct (ss_pb g (g j)) 0 m) = k := of_decide_eq_true hk
  by_cases e : g i = g j
  · rw [decide_eq_true e, e, hk]
  · rw [decide_eq_false e]
    refine decide_eq_false (fun hz => ?_)
    have h1 := ss_ct_le (ss_pb g (g i)) m 0
    have h2 := ss_ct_le (ss_pb g (g j)) m 0
    have h3 := (nI_eq (by omega) (by omega)).mp (hz.trans hk'.symm)
    have hne : (g i).toInt ≠ (g j).toInt := fun z => e (by rw [ss_eq]; exact z)
    rcases Int.lt_or_gt_of_ne hne with h4 | h4
    · have := ss_bl_lt hi rfl h4; omega
    · have := ss_bl_lt hj rfl h4; omega
section
variable {yn yc yr yf : Int32} {R F T N o s cc cr ci cg cn yk yl ym sr si ke : Nat → Int32}
variable {ps : Int64 → SY → Prop} {m b c n : Nat} {g h l : Nat → Int32} {w k : Int32}
theorem ys_g141 (hn : n ≤ 48) (hl : ∀ j, j < n → ke j = l j) : ∀ d i a e, i + d = n → ((w = 1 → ps (nI n).toInt64 (yn, yc, yr, yf, R, F, T, N, o, s, cc, cr, ci, cg, cn, yk, yl, ym, sr, si, ke)) ∧ (¬ w = 1 → ((w = 2 → ps (ss_sum l i d a) (yn, yc, yr, yf, R, F, T, N, o, s, cc, cr, ci, cg, cn, yk, yl, ym, sr, si, ke)) ∧ (¬ w = 2 → ps (ss_max l i d e).toInt64 (yn, yc, yr, yf, R, F, T, N, o, s, cc, cr, ci, cg, cn, yk, yl, ym, sr, si, ke))))) → wY_group_141 ps w (nI n) yn yc yr yf R F T N o s cc cr ci cg cn yk yl ym sr si ke (d + 1) a e (nI i) := by
  intro d
  induction d with
  | zero => intro i a e hi hp; exact br_t (nI_le (by omega) (by omega)) hp
  | succ d ih =>
    intro i a e hi hp
    have hv : vp_in (nI i) 64 := vp_in_nI (by omega) (by decide)
    refine br_f (nI_ge (by omega) (by omega)) ⟨hv, ?_⟩
    rw [nI_clamp (n := i) (by omega), hl i (by omega)]
    rw [ss_sum, ss_max] at hp
    refine nm_e ⟨hv, br_c (fun z => ?_) (fun z => ⟨hv, nm_e ?_⟩)⟩
    · rw [if_pos z] at hp; exact nm_r (nI_1 i) (ih (i + 1) _ _ (by omega) hp)
    · rw [if_neg z] at hp; exact nm_r (nI_1 i) (ih (i + 1) _ _ (by omega) hp)
theorem ys_gend (hn : n ≤ 48) (hl : ∀ j, j < n → ke j = l j) (hp : ((w = 1 → ps (nI n).toInt64 (yn, yc, yr, yf, R, F, T, N, o, s, cc, cr, ci, cg, cn, yk, yl, ym, sr, si, ke)) ∧ (¬ w = 1 → ((w = 2 → ps (ss_sum l 0 n 0) (yn, yc, yr, yf, R, F, T, N, o, s, cc, cr, ci, cg, cn, yk, yl, ym, sr, si, ke)) ∧ (¬ w = 2 → ps (ss_mx l n).toInt64 (yn, yc, yr, yf, R, F, T, N, o, s, cc, cr, ci, cg, cn, yk, yl, ym, sr, si, ke)))))) : ((nI n ≤ 0 → (∃ n141 : Nat, wY_group_141 ps w (nI n) yn yc yr yf R F T N o s cc cr ci cg cn yk yl ym sr si ke n141 0 0 0)) ∧ (¬ nI n ≤ 0 → (∀ x9_106 : Int32, x9_106 = ke 0 → (∃ n141 : Nat, wY_group_141 ps w (nI n) yn yc yr yf R F T N o s cc cr ci cg cn yk yl ym sr si ke n141 0 x9_106 0)))) := by
  cases n with
  | zero => exact br_t (nI_le (a := 0) (b := 0) (by omega) (by omega)) ⟨1, ys_g141 hn hl 0 0 0 0 (by omega) hp⟩
  | succ d =>
    refine br_f (nI_nle (by omega) (by omega)) (nm_r (hl 0 (by omega)) ⟨d + 2, ys_g141 hn hl (d + 1) 0 0 (l 0) (by omega) ?_⟩)
    have e2 : ss_max l 0 (d + 1) (l 0) = ss_mx l (d + 1) := by rw [ss_max, ite_self]; rfl
    rw [e2]; exact hp
theorem ys_g45 (hm : m ≤ 48) (hb : b < 3) (hc : c < 3) (hg : ∀ j, j < m → si (3 * j + b) = g j) (hh : ∀ j, j < m → si (3 * j + c) = h j) (hw : ¬ w = 0) : ∀ (d i n : Nat) (ke : Nat → Int32), i + d = m → n ≤ i →
    (∀ (n' : Nat) (ke' : Nat → Int32), n' ≤ m → ss_L ke' 0 n' = ss_L ke 0 n ++ ss_kp g h (ss_pk g m k) i d → ∃ l : Nat → Int32, (∀ j, j < n' → ke' j = l j) ∧ ((w = 1 → ps (nI n').toInt64 (yn, yc, yr, nI m, R, F, T, N, o, s, cc, cr, ci, cg, cn, yk, yl, ym, sr, si, ke')) ∧ (¬ w = 1 → ((w = 2 → ps (ss_sum l 0 n' 0) (yn, yc, yr, nI m, R, F, T, N, o, s, cc, cr, ci, cg, cn, yk, yl, ym, sr, si, ke')) ∧ (¬ w = 2 → ps (ss_mx l n').toInt64 (yn, yc, yr, nI m, R, F, T, N, o, s, cc, cr, ci, cg, cn, yk, yl, ym, sr, si, ke')))))) →
    wY_group_45 ps (nI b) k w (nI c) yn yc yr (nI m) (d + 1) (nI n) (nI i) R F T N o s cc cr ci cg cn yk yl ym sr si ke := by
  intro d
  induction d with
  | zero =>
    intro i n ke hi hn hp
    obtain ⟨l, hl, hq⟩ := hp n ke (by omega) (by rw [ss_kp, List.append_nil])
    exact br_t (nI_le (by omega) (by omega)) (ys_gend (by omega) hl hq)
  | succ d ih =>
    intro i n ke hi hn hp
    refine br_f (nI_ge (by omega) (by omega)) ?_
    rw [ss_3i, ss_3i, nI_clamp (n := 3 * i + b) (by omega), nI_clamp (n := 3 * i + c) (by omega), hg i (by omega), hh i (by omega), nI_clamp (n := n) (by omega)]
    refine ⟨vp_in_nI (by omega) (by decide), nm_e (ys_below hm hb hg (br_c (fun z => br_f hw ⟨vp_in_nI (by omega) (by decide), vp_in_nI (by omega) (by decide), nm_e (nm_r (nI_1 n) (nm_r (nI_1 i) ?_))⟩) (fun z => nm_r (nI_1 i) ?_)))⟩
    · refine ih (i + 1) (n + 1) (upd ke n (h i)) (by omega) (by omega) (fun n' ke' hn' he => hp n' ke' hn' ?_)
      rw [he, ss_kp, if_pos (show ss_pk g m k (g i) = true from decide_eq_true z), ss_Lsnoc, Nat.zero_add, ss_us, List.append_assoc, List.singleton_append]
      rw [ss_Lcon (V := upd ke n (h i)) (W := ke) n 0 (fun j _ hj => ss_un (by omega))]
    · refine ih (i + 1) n ke (by omega) (by omega) (fun n' ke' hn' he => hp n' ke' hn' ?_)
      rw [he, ss_kp, if_neg (show ¬ ss_pk g m k (g i) = true from by unfold ss_pk; rw [decide_eq_false z]; decide)]
theorem ys_g45_0 (hm : m ≤ 48) (hb : b < 3) (hc : c < 3) (hg : ∀ j, j < m → si (3 * j + b) = g j) : ∀ (d i : Nat), i + d = m → (ss_gm g (ss_pk g m k) i d = m → ps 0 (yn, yc, yr, nI m, R, F, T, N, o, s, cc, cr, ci, cg, cn, yk, yl, ym, sr, si, ke)) → (ss_gm g (ss_pk g m k) i d < m → ps (g (ss_gm g (ss_pk g m k) i d)).toInt64 (yn, yc, yr, nI m, R, F, T, N, o, s, cc, cr, ci, cg, cn, yk, yl, ym, sr, si, ke)) → wY_group_45 ps (nI b) k 0 (nI c) yn yc yr (nI m) (d + 1) (nI 0) (nI i) R F T N o s cc cr ci cg cn yk yl ym sr si ke := by
  intro d
  induction d with
  | zero =>
    intro i hi h1 h2
    refine br_t (nI_le (by omega) (by omega)) (ys_gend (n := 0) (l := ke) (by omega) (fun j hj => rfl) ?_)
    exact br_f (by decide) (br_f (by decide) (h1 (by rw [ss_gm]; omega)))
  | succ d ih =>
    intro i hi h1 h2
    refine br_f (nI_ge (by omega) (by omega)) ?_
    rw [ss_3i, ss_3i, nI_clamp (n := 3 * i + b) (by omega), hg i (by omega)]
    rw [ss_gm] at h1 h2
    refine ⟨vp_in_nI (by omega) (by decide), nm_e (ys_below hm hb hg (br_c (fun z => br_t rfl ?_) (fun z => nm_r (nI_1 i) ?_)))⟩
    · rw [if_pos (show ss_pk g m k (g i) = true from decide_eq_true z)] at h2
      exact h2 (by omega)
    · rw [if_neg (show ¬ ss_pk g m k (g i) = true from by unfold ss_pk; rw [decide_eq_false z]; decide)] at h1 h2
      exact ih (i + 1) (by omega) h1 h2
end
theorem i_vc_group {k : Nat} {u : SX} {v : SY} (I : i_Rel k u v) (hk : k + 6 ≤ 3072) (v1 : Int32) (v2 : Int32) (v3 : Int32) (v4 : Int32) (v5 : Int32) : wpX_group (fun r u' => wpY_group (fun r' v' => r' = r ∧ i_Rel (k + 6) u' v') v v1 v2 v3 v4 v5) u v1 v2 v3 v4 v5 := by
  obtain ⟨ck, rc, nx, ny, xf, yf, R, F, T, N, VR, VF, VT, VN, o, s, cc, cr, ci, cg, cn, ws, wk, wl, wm, fr, fi, yk, yl, ym, sr, si, ke, rfl, rfl, h1, h2, h3, h4⟩ := I
  unfold wpX_group; dsimp only
  by_cases ha : v1 = -1 ∨ ss_op o v1
  · refine xs_canAsk_t ha (br_f ss_10 ?_)
    obtain ⟨t, cnt, tm, hwho, hlive⟩ := ss_ask_who h3 ha
    by_cases hby : ss_am v2 3
    · refine xs_isColumn_t hby (br_f ss_10 ?_)
      by_cases hcol : ss_am v5 3
      · refine xs_isColumn_t hcol (br_f ss_10 (xs_findRows h1 rfl hwho (ss_wr_x h4) (fun m fr' fi' hm he => ?_)))
        dsimp only
        have hby' := hby
        have hcol' := hcol
        obtain ⟨b, hb, rfl⟩ := hby'
        obtain ⟨c, hc, rfl⟩ := hcol'
        -- the reference's answer, whatever the component's found rows are by now
        have hY : ∀ (r : Int64) (x' : Int32) (fr2 fi2 : Nat → Int32), (¬ ss_am v4 4 → r = 0) →
            (v4 = 0 → (ss_gm (fun j => fi' (3 * j + b)) (ss_pk (fun j => fi' (3 * j + b)) m v3) 0 m = m → r = 0) ∧ (ss_gm (fun j => fi' (3 * j + b)) (ss_pk (fun j => fi' (3 * j + b)) m v3) 0 m < m → r = (fi' (3 * ss_gm (fun j => fi' (3 * j + b)) (ss_pk (fun j => fi' (3 * j + b)) m v3) 0 m + b)).toInt64)) →
            (ss_am v4 4 → ¬ v4 = 0 → ∀ (n' : Nat) (ke' : Nat → Int32), n' ≤ m → ss_L ke' 0 n' = ss_kp (fun j => fi' (3 * j + b)) (fun j => fi' (3 * j + c)) (ss_pk (fun j => fi' (3 * j + b)) m v3) 0 m → ∃ l : Nat → Int32, (∀ j, j < n' → ke' j = l j) ∧ ((v4 = 1 → r = (nI n').toInt64) ∧ (¬ v4 = 1 → ((v4 = 2 → r = ss_sum l 0 n' 0) ∧ (¬ v4 = 2 → r = (ss_mx l n').toInt64))))) →
            wpY_group (fun r' v' => r' = r ∧ i_Rel (k + 6) (nI ck, nI rc, nI nx, x', R, F, T, N, o, s, cc, cr, ci, cg, cn, ws, wk, wl, wm, fr2, fi2) v') (nI ny, nI ck, nI rc, yf, VR, VF, VT, VN, o, s, cc, cr, ci, cg, cn, yk, yl, ym, sr, si, ke) v1 (nI b) v3 v4 (nI c) := by
          intro r x' fr2 fi2 qb q0 q1
          unfold wpY_group; dsimp only
          refine ys_look h2 rfl ha hwho (ss_wr_y h4) (fun m' sr' si' he' => ?_)
          dsimp only
          rw [← ss_Q_eq h3.2.2.1 hlive h4] at he'
          obtain ⟨rfl, hr, hg⟩ := ss_agree he he'
          have hR : ∀ ke' : Nat → Int32, i_Rel (k + 6) (nI ck, nI rc, nI nx, x', R, F, T, N, o, s, cc, cr, ci, cg, cn, ws, wk, wl, wm, fr2, fi2) (nI ny, nI ck, nI rc, nI m', VR, VF, VT, VN, o, s, cc, cr, ci, cg, cn, yk, yl, ym, sr', si', ke') := fun ke' => ss_mk h1 h2 (ss_I_up h3) h4
          refine br_f ss_10 (ys_among_t (n := 3) rfl (by decide) hby (br_f ss_10 (ys_among_t (n := 3) rfl (by decide) hcol (br_f ss_10 ?_))))
          by_cases hwhat : ss_am v4 4
          · refine ys_among_t (n := 4) rfl (by decide) hwhat (br_f ss_10 ?_)
            by_cases hz : v4 = 0
            · have q := q0 hz
              rw [hz]
              exact ⟨m' + 1, ys_g45_0 hm hb hc (hg b hb) m' 0 (by omega) (fun e => ⟨(q.1 e).symm, hR ke⟩) (fun e => ⟨(q.2 e).symm, hR ke⟩)⟩
            · refine ⟨m' + 1, ys_g45 hm hb hc (hg b hb) (hg c hc) hz m' 0 0 ke (by omega) (by omega) (fun n' ke' hn' heq => ?_)⟩
              obtain ⟨l, hl, a1, a2⟩ := q1 hwhat hz n' ke' hn' heq
              exact ⟨l, hl, fun w => ⟨(a1 w).symm, hR ke'⟩, fun w => ⟨fun w2 => ⟨((a2 w).1 w2).symm, hR ke'⟩, fun w2 => ⟨((a2 w).2 w2).symm, hR ke'⟩⟩⟩
          · exact ys_among_f (n := 4) rfl (by decide) hwhat (br_t rfl ⟨(qb hwhat).symm, hR ke⟩)
        refine xs_groupMember hm hb (fun j _ => rfl) (fun hgm => ?_) (fun hgm => ?_)
        · -- no such group
          have hnone : ∀ j, 0 ≤ j → j < 0 + m → ss_pk (fun j => fi' (3 * j + b)) m v3 (fi' (3 * j + b)) = false := by
            rcases ss_gm_spec (g := fun j => fi' (3 * j + b)) (q := ss_pk (fun j => fi' (3 * j + b)) m v3) m 0 with ⟨_, hh⟩ | ⟨hh, _⟩
            · exact hh
            · omega
          refine br_f (by decide) (hY 0 (nI m) fr' fi' (fun _ => rfl) (fun _ => ⟨fun _ => rfl, fun e => by omega⟩) (fun _ _ n' ke' hn' heq => ⟨ke', fun _ _ => rfl, ?_⟩))
          rw [ss_kp_nil m 0 hnone] at heq
          have hn0 : n' = 0 := by
            have := congrArg List.length heq
            rw [ss_Llen] at this
            exact this
          subst hn0
          exact ⟨fun _ => rfl, fun _ => ⟨fun _ => rfl, fun _ => rfl⟩⟩
        · have hj : ∃ j0, j0 = ss_gm (fun j => fi' (3 * j + b)) (ss_pk (fun j => fi' (3 * j + b)) m v3) 0 m := ⟨_, rfl⟩
          obtain ⟨j0, hj0⟩ := hj
          have hpk : ss_pk (fun j => fi' (3 * j + b)) m v3 (fi' (3 * j0 + b)) = true := by
            rcases ss_gm_spec (g := fun j => fi' (3 * j + b)) (q := ss_pk (fun j => fi' (3 * j + b)) m v3) m 0 with ⟨hh, _⟩ | ⟨_, hh⟩
            · omega
            · rw [hj0]; exact hh
          rw [← hj0] at hgm hY
          rw [← hj0, ss_i3, nI_clamp (n := 3 * j0 + b) (by omega)]
          refine br_t (nI_pos' (by omega)) ⟨vp_in_nI (by omega) (by decide), nm_e (xs_keepOnly hm hb (fun m2 fr2 fi2 hm2 he2 => ?_))⟩
          dsimp only
          have hcolE : ss_L (fun j => fi2 (3 * j + c)) 0 m2 = ss_kp (fun j => fi' (3 * j + b)) (fun j => fi' (3 * j + c)) (ss_pk (fun j => fi' (3 * j + b)) m v3) 0 m := by
            have e1 := congrArg (fun l : List ss_F => l.map (fun q => ss_gt q c)) he2
            have e2 : (ss_L (ss_fa fr2 fi2) 0 m2).map (fun q => ss_gt q c) = ss_L (fun j => fi2 (3 * j + c)) 0 m2 := by
              rw [ss_Lmap]
              exact ss_Lcon m2 0 (fun j _ _ => ss_gt_fa hc)
            rw [← e2, show (ss_L (ss_fa fr2 fi2) 0 m2).map (fun q => ss_gt q c) = _ from e1, ss_kp_map hb hc]
            exact ss_kp_congr m 0 (fun j _ hj => (ss_pk_eq (g := fun j => fi' (3 * j + b)) hm (by omega) hgm hpk).symm)
          have hag : ∀ (n' : Nat) (ke' : Nat → Int32), ss_L ke' 0 n' = ss_kp (fun j => fi' (3 * j + b)) (fun j => fi' (3 * j + c)) (ss_pk (fun j => fi' (3 * j + b)) m v3) 0 m → n' = m2 ∧ ∀ j, j < n' → ke' j = fi2 (3 * j + c) := by
            intro n' ke' heq
            have e : n' = m2 := by
              have a := congrArg List.length heq
              have b := congrArg List.length hcolE
              rw [ss_Llen] at a b
              omega
            subst e
            have hj := ss_Linj n' 0 (heq.trans hcolE.symm)
            exact ⟨rfl, fun j hm => hj j (by omega) (by omega)⟩
          by_cases hwhat : ss_am v4 4
          · have hcase : v4 = 0 ∨ v4 = 1 ∨ v4 = 2 ∨ v4 = 3 := by
              obtain ⟨j, hj, rfl⟩ := hwhat
              match j, hj with
              | 0, _ => exact Or.inl rfl
              | 1, _ => exact Or.inr (Or.inl rfl)
              | 2, _ => exact Or.inr (Or.inr (Or.inl rfl))
              | 3, _ => exact Or.inr (Or.inr (Or.inr rfl))
            rcases hcase with rfl | rfl | rfl | rfl
            · exact br_f (by decide) (br_f (by decide) (br_t rfl (hY _ (nI m2) fr2 fi2 (fun z => absurd hwhat z) (fun _ => ⟨fun e => absurd e (Nat.ne_of_lt hgm), fun _ => rfl⟩) (fun _ z => absurd rfl z))))
            · refine br_f (by decide) (br_f (by decide) (br_f (by decide) (br_t rfl (hY _ (nI m2) fr2 fi2 (fun z => absurd hwhat z) (fun z => absurd z (by decide)) (fun _ _ n' ke' _ heq => ?_)))))
              obtain ⟨rfl, hl⟩ := hag n' ke' heq
              exact ⟨_, hl, br_t rfl rfl⟩
            · refine br_f (by decide) (br_f (by decide) (br_f (by decide) (br_f (by decide) (br_t rfl (xs_sumOf (by omega) hc (fun j _ => rfl) (hY _ (nI m2) fr2 fi2 (fun z => absurd hwhat z) (fun z => absurd z (by decide)) (fun _ _ n' ke' _ heq => ?_)))))))
              obtain ⟨rfl, hl⟩ := hag n' ke' heq
              exact ⟨_, hl, br_f (by decide) (br_t rfl rfl)⟩
            · refine br_f (by decide) (br_f (by decide) (br_f (by decide) (br_f (by decide) (br_f (by decide) (br_t rfl (xs_greatestOf (by omega) hc (fun j _ => rfl) (hY _ (nI m2) fr2 fi2 (fun z => absurd hwhat z) (fun z => absurd z (by decide)) (fun _ _ n' ke' _ heq => ?_))))))))
              obtain ⟨rfl, hl⟩ := hag n' ke' heq
              exact ⟨_, hl, br_f (by decide) (br_f (by decide) rfl)⟩
          · have hYb := hY 0 (nI m2) fr2 fi2 (fun _ => rfl) (fun z => absurd (show ss_am v4 4 from ⟨0, by decide, z⟩) hwhat) (fun z => absurd z hwhat)
            exact br_c (fun _ => hYb) (fun _ => br_c (fun _ => hYb) (fun _ => br_f (fun z => hwhat ⟨0, by decide, z⟩) (br_f (fun z => hwhat ⟨1, by decide, z⟩) (br_f (fun z => hwhat ⟨2, by decide, z⟩) (br_f (fun z => hwhat ⟨3, by decide, z⟩) trivial)))))
      · refine xs_isColumn_f hcol (br_t rfl ?_)
        unfold wpY_group; dsimp only
        refine ys_look h2 rfl ha hwho (ss_wr_y h4) (fun m' sr' si' he' => ?_)
        exact br_f ss_10 (ys_among_t (n := 3) rfl (by decide) hby (br_f ss_10 (ys_among_f (n := 3) rfl (by decide) hcol (br_t rfl ⟨rfl, ss_mk h1 h2 (ss_I_up h3) h4⟩))))
    · refine xs_isColumn_f hby (br_t rfl ?_)
      unfold wpY_group; dsimp only
      refine ys_look h2 rfl ha hwho (ss_wr_y h4) (fun m' sr' si' he' => ?_)
      exact br_f ss_10 (ys_among_f (n := 3) rfl (by decide) hby (br_t rfl ⟨rfl, ss_mk h1 h2 (ss_I_up h3) h4⟩))
  · refine xs_canAsk_f ha (br_t rfl ?_)
    unfold wpY_group; dsimp only
    exact ys_look_f ha (br_t rfl ⟨rfl, ss_mk h1 h2 (ss_I_up h3) h4⟩)
end
