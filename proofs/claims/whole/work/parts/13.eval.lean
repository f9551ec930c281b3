def ss_sum (g : Nat → Int32) : Nat → Nat → Int64 → Int64
  | _, 0, a => a
  | i, d + 1, a => ss_sum g (i + 1) d (a + (g i).toInt64)
def ss_min (g : Nat → Int32) : Nat → Nat → Int32 → Int32
  | _, 0, a => a
  | i, d + 1, a => ss_min g (i + 1) d (if a ≤ g i then a else g i)
def ss_max (g : Nat → Int32) : Nat → Nat → Int32 → Int32
  | _, 0, a => a
  | i, d + 1, a => ss_max g (i + 1) d (if g i ≤ a then a else g i)
def ss_fst (g : Nat → Int32) (x : Int32) : Nat → Nat → Bool
  | _, 0 => true
  | i, d + 1 => decide (¬ g i = x) && ss_fst g x (i + 1) d
def ss_ct (p : Nat → Bool) : Nat → Nat → Nat
  | _, 0 => 0
  | i, d + 1 => (if p i = true then 1 else 0) + ss_ct p (i + 1) d
theorem ss_ct_le (p : Nat → Bool) : ∀ d i, ss_ct p i d ≤ d := by
  intro d
  induction d with
  | zero => intro i; exact Nat.le_refl 0
  | succ d ih =>
    intro i
    rw [ss_ct]
    have := ih (i + 1)
    split <;> omega
def ss_pd (g : Nat → Int32) (j : Nat) : Bool := ss_fst g (g j) 0 j
def ss_pb (g : Nat → Int32) (x : Int32) (j : Nat) : Bool := decide (¬ x ≤ g j) && ss_fst g (g j) 0 j
def ss_be (g p : Nat → Int32) (i j : Nat) : Bool := decide (g j < g i ∨ (g j = g i ∧ ¬ p i ≤ p j))
def ss_od (p : Nat → Int32) (cb : Nat → Int32) (k : Int32) : Nat → Nat → Int32
  | _, 0 => -1
  | i, d + 1 => if cb i = k then p i else ss_od p cb k (i + 1) d
theorem ss_cpyF {fr fi fr' fi' : Nat → Int32} {i k : Nat} (h0 : fr' = upd fr k (fr i)) (h : fi' = upd (upd (upd fi (3 * k) (fi (3 * i))) (3 * k + 1) (upd fi (3 * k) (fi (3 * i)) (3 * i + 1))) (3 * k + 2) (upd (upd fi (3 * k) (fi (3 * i))) (3 * k + 1) (upd fi (3 * k) (fi (3 * i)) (3 * i + 1)) (3 * i + 2))) :
    ss_fa fr' fi' k = ss_fa fr fi i ∧ ∀ j, j ≠ k → ss_fa fr' fi' j = ss_fa fr fi j := by
  obtain ⟨h1, h2, h3, h4⟩ := ss_cpy h
  subst h0
  refine ⟨?_, fun j hj => ?_⟩
  · unfold ss_fa; rw [ss_us, h1, h2, h3]
  · obtain ⟨q1, q2, q3⟩ := h4 j hj
    unfold ss_fa; rw [ss_un hj, q1, q2, q3]
section
variable {xc xr xn xf : Int32} {R F T N o s cc cr ci cg cn ws wk wl wm fr fi : Nat → Int32}
variable {p6 : Int64 → Prop} {post : Int32 → Prop} {ps : Int32 → SX → Prop} {m c : Nat} {g p : Nat → Int32}
theorem xs_sum_loop (hm : m ≤ 48) (hc : c < 3) (hg : ∀ j, j < m → fi (3 * j + c) = g j) : ∀ d i a, i + d = m → p6 (ss_sum g i d a) → wX_sumOf_5 p6 (nI c) xc xr xn (nI m) R F T N o s cc cr ci cg cn ws wk wl wm fr fi (d + 1) a (nI i) := by
  intro d
  induction d with
  | zero => intro i a hi hp; exact br_t (nI_le (by omega) (by omega)) hp
  | succ d ih =>
    intro i a hi hp
    refine br_f (nI_ge (by omega) (by omega)) ?_
    rw [ss_i3, nI_clamp (n := 3 * i + c) (by omega), hg i (by omega)]
    exact ⟨vp_in_nI (by omega) (by decide), nm_e (nm_r (nI_1 i) (ih (i + 1) _ (by omega) hp))⟩
theorem xs_sumOf (hm : m ≤ 48) (hc : c < 3) (hg : ∀ j, j < m → fi (3 * j + c) = g j) (hp : p6 (ss_sum g 0 m 0)) : wpX_sumOf p6 (xc, xr, xn, nI m, R, F, T, N, o, s, cc, cr, ci, cg, cn, ws, wk, wl, wm, fr, fi) (nI c) :=
  ⟨m + 1, xs_sum_loop hm hc hg m 0 0 (by omega) hp⟩
theorem xs_min_loop (hm : m ≤ 48) (hc : c < 3) (hg : ∀ j, j < m → fi (3 * j + c) = g j) : ∀ d i a, 0 < i → i + d = m → post (ss_min g i d a) → wX_leastOf_4 post (nI c) xc xr xn (nI m) R F T N o s cc cr ci cg cn ws wk wl wm fr fi (d + 1) a (nI i) := by
  intro d
  induction d with
  | zero => intro i a h0 hi hp; exact br_t (nI_le (by omega) (by omega)) hp
  | succ d ih =>
    intro i a h0 hi hp
    refine br_f (nI_ge (by omega) (by omega)) ?_
    rw [ss_i3, nI_clamp (n := 3 * i + c) (by omega), hg i (by omega)]
    rw [ss_min] at hp
    refine ⟨vp_in_nI (by omega) (by decide), nm_e (br_f (nI_ne0 h0 (by omega)) (br_c (fun z => ?_) (fun z => ?_)))⟩
    · rw [if_pos z] at hp; exact nm_r (nI_1 i) (ih (i + 1) _ (by omega) (by omega) hp)
    · rw [if_neg z] at hp; exact nm_r (nI_1 i) (ih (i + 1) _ (by omega) (by omega) hp)
theorem xs_max_loop (hm : m ≤ 48) (hc : c < 3) (hg : ∀ j, j < m → fi (3 * j + c) = g j) : ∀ d i a, 0 < i → i + d = m → post (ss_max g i d a) → wX_greatestOf_4 post (nI c) xc xr xn (nI m) R F T N o s cc cr ci cg cn ws wk wl wm fr fi (d + 1) a (nI i) := by
  intro d
  induction d with
  | zero => intro i a h0 hi hp; exact br_t (nI_le (by omega) (by omega)) hp
  | succ d ih =>
    intro i a h0 hi hp
    refine br_f (nI_ge (by omega) (by omega)) ?_
    rw [ss_i3, nI_clamp (n := 3 * i + c) (by omega), hg i (by omega)]
    rw [ss_max] at hp
    refine ⟨vp_in_nI (by omega) (by decide), nm_e (br_f (nI_ne0 h0 (by omega)) (br_c (fun z => ?_) (fun z => ?_)))⟩
    · rw [if_pos z] at hp; exact nm_r (nI_1 i) (ih (i + 1) _ (by omega) (by omega) hp)
    · rw [if_neg z] at hp; exact nm_r (nI_1 i) (ih (i + 1) _ (by omega) (by omega) hp)
def ss_mn (g : Nat → Int32) : Nat → Int32
  | 0 => 0
  | d + 1 => ss_min g 1 d (g 0)
def ss_mx (g : Nat → Int32) : Nat → Int32
  | 0 => 0
  | d + 1 => ss_max g 1 d (g 0)
theorem xs_leastOf (hm : m ≤ 48) (hc : c < 3) (hg : ∀ j, j < m → fi (3 * j + c) = g j) (hp : post (ss_mn g m)) : wpX_leastOf post (xc, xr, xn, nI m, R, F, T, N, o, s, cc, cr, ci, cg, cn, ws, wk, wl, wm, fr, fi) (nI c) := by
  cases m with
  | zero => exact ⟨1, br_t (nI_le (a := 0) (b := 0) (by omega) (by omega)) hp⟩
  | succ d =>
    refine ⟨d + 2, br_f (nI_ge (a := 0) (by omega) (by omega)) ?_⟩
    have e : (0 : Int32) * 3 + nI c = nI c := ss_i3 0 c ▸ (by rw [Nat.mul_zero, Nat.zero_add])
    have h0 := hg 0 (by omega)
    rw [Nat.mul_zero, Nat.zero_add] at h0
    rw [e, nI_clamp (n := c) (by omega), h0]
    exact ⟨vp_in_nI (by omega) (by decide), nm_e (br_t rfl (nm_r (e' := nI 1) (by decide) (xs_min_loop hm hc hg d 1 _ (by omega) (by omega) hp)))⟩
theorem xs_greatestOf (hm : m ≤ 48) (hc : c < 3) (hg : ∀ j, j < m → fi (3 * j + c) = g j) (hp : post (ss_mx g m)) : wpX_greatestOf post (xc, xr, xn, nI m, R, F, T, N, o, s, cc, cr, ci, cg, cn, ws, wk, wl, wm, fr, fi) (nI c) := by
  cases m with
  | zero => exact ⟨1, br_t (nI_le (a := 0) (b := 0) (by omega) (by omega)) hp⟩
  | succ d =>
    refine ⟨d + 2, br_f (nI_ge (a := 0) (by omega) (by omega)) ?_⟩
    have e : (0 : Int32) * 3 + nI c = nI c := ss_i3 0 c ▸ (by rw [Nat.mul_zero, Nat.zero_add])
    have h0 := hg 0 (by omega)
    rw [Nat.mul_zero, Nat.zero_add] at h0
    rw [e, nI_clamp (n := c) (by omega), h0]
    exact ⟨vp_in_nI (by omega) (by decide), nm_e (br_t rfl (nm_r (e' := nI 1) (by decide) (xs_max_loop hm hc hg d 1 _ (by omega) (by omega) hp)))⟩
theorem xs_first_loop {k : Nat} {x : Int32} (hm : m ≤ 48) (hc : c < 3) (hg : ∀ j, j < m → fi (3 * j + c) = g j) (hk : k < m) : ∀ d i, i + d = k → post (ss_b (ss_fst g x i d)) → wX_isFirstOfValue_14 post (nI k) (nI c) x xc xr xn xf R F T N o s cc cr ci cg cn ws wk wl wm fr fi (d + 1) (nI i) := by
  intro d
  induction d with
  | zero => intro i hi hp; exact br_t (nI_le (by omega) (by omega)) hp
  | succ d ih =>
    intro i hi hp
    refine br_f (nI_ge (by omega) (by omega)) ?_
    rw [ss_i3, nI_clamp (n := 3 * i + c) (by omega), hg i (by omega)]
    rw [ss_fst] at hp
    refine ⟨vp_in_nI (by omega) (by decide), br_c (fun z => ?_) (fun z => ?_)⟩
    · rw [decide_eq_false (fun q => q z), Bool.false_and] at hp; exact hp
    · rw [decide_eq_true z, Bool.true_and] at hp; exact nm_r (nI_1 i) (ih (i + 1) (by omega) hp)
theorem xs_isFirst {k : Nat} (hm : m ≤ 48) (hc : c < 3) (hg : ∀ j, j < m → fi (3 * j + c) = g j) (hk : k < m) (hp : post (ss_b (ss_fst g (g k) 0 k))) : wpX_isFirstOfValue post (xc, xr, xn, xf, R, F, T, N, o, s, cc, cr, ci, cg, cn, ws, wk, wl, wm, fr, fi) (nI k) (nI c) := by
  refine ⟨by rw [ss_i3]; exact vp_in_nI (by omega) (by decide), nm_r (e' := g k) ?_ ⟨k + 1, xs_first_loop hm hc hg hk k 0 (by omega) hp⟩⟩
  rw [ss_i3, nI_clamp (n := 3 * k + c) (by omega), hg k hk]
theorem xs_diff_loop (hm : m ≤ 48) (hc : c < 3) (hg : ∀ j, j < m → fi (3 * j + c) = g j) : ∀ d i a, i + d = m → post (nI (a + ss_ct (ss_pd g) i d)) → wX_countDifferent_4 post (nI c) xc xr xn (nI m) R F T N o s cc cr ci cg cn ws wk wl wm fr fi (d + 1) (nI a) (nI i) := by
  intro d
  induction d with
  | zero => intro i a hi hp; exact br_t (nI_le (by omega) (by omega)) hp
  | succ d ih =>
    intro i a hi hp
    refine br_f (nI_ge (by omega) (by omega)) (xs_isFirst hm hc hg (by omega) ?_)
    rw [ss_ct] at hp
    cases hb : ss_fst g (g i) 0 i with
    | false =>
      rw [if_neg (by unfold ss_pd; rw [hb]; decide), Nat.zero_add] at hp
      exact br_t rfl (nm_r (nI_1 i) (ih (i + 1) a (by omega) hp))
    | true =>
      rw [if_pos (show ss_pd g i = true from hb), ← Nat.add_assoc] at hp
      exact br_f ss_10 (nm_r (nI_1 a) (nm_r (nI_1 i) (ih (i + 1) (a + 1) (by omega) hp)))
theorem xs_countDifferent (hm : m ≤ 48) (hc : c < 3) (hg : ∀ j, j < m → fi (3 * j + c) = g j) (hp : post (nI (ss_ct (ss_pd g) 0 m))) : wpX_countDifferent post (xc, xr, xn, nI m, R, F, T, N, o, s, cc, cr, ci, cg, cn, ws, wk, wl, wm, fr, fi) (nI c) :=
  ⟨m + 1, xs_diff_loop hm hc hg m 0 0 (by omega) (by rw [Nat.zero_add]; exact hp)⟩
theorem xs_below_loop {x : Int32} (hm : m ≤ 48) (hc : c < 3) (hg : ∀ j, j < m → fi (3 * j + c) = g j) : ∀ d i a, i + d = m → post (nI (a + ss_ct (ss_pb g x) i d)) → wX_countDifferentBelow_5 post (nI c) x xc xr xn (nI m) R F T N o s cc cr ci cg cn ws wk wl wm fr fi (d + 1) (nI a) (nI i) := by
  intro d
  induction d with
  | zero => intro i a hi hp; exact br_t (nI_le (by omega) (by omega)) hp
  | succ d ih =>
    intro i a hi hp
    refine br_f (nI_ge (by omega) (by omega)) ?_
    rw [ss_i3, nI_clamp (n := 3 * i + c) (by omega), hg i (by omega)]
    rw [ss_ct] at hp
    refine ⟨vp_in_nI (by omega) (by decide), br_c (fun z => ?_) (fun z => xs_isFirst hm hc hg (by omega) ?_)⟩
    · rw [if_neg (by unfold ss_pb; rw [decide_eq_false (fun q => q z), Bool.false_and]; decide), Nat.zero_add] at hp
      exact nm_r (nI_1 i) (ih (i + 1) a (by omega) hp)
    · cases hb : ss_fst g (g i) 0 i with
      | false =>
        rw [if_neg (by unfold ss_pb; rw [hb, Bool.and_false]; decide), Nat.zero_add] at hp
        exact br_t rfl (nm_r (nI_1 i) (ih (i + 1) a (by omega) hp))
      | true =>
        rw [if_pos (by unfold ss_pb; rw [hb, decide_eq_true z]; rfl), ← Nat.add_assoc] at hp
        exact br_f ss_10 (nm_r (nI_1 a) (nm_r (nI_1 i) (ih (i + 1) (a + 1) (by omega) hp)))
theorem xs_below {x : Int32} (hm : m ≤ 48) (hc : c < 3) (hg : ∀ j, j < m → fi (3 * j + c) = g j) (hp : post (nI (ss_ct (ss_pb g x) 0 m))) : wpX_countDifferentBelow post (xc, xr, xn, nI m, R, F, T, N, o, s, cc, cr, ci, cg, cn, ws, wk, wl, wm, fr, fi) (nI c) x :=
  ⟨m + 1, xs_below_loop hm hc hg m 0 0 (by omega) (by rw [Nat.zero_add]; exact hp)⟩
def ss_pk (g : Nat → Int32) (m : Nat) (k : Int32) (x : Int32) : Bool := decide (nI (ss_ct (ss_pb g x) 0 m) = k)
/-- the first place of the group, or m -/
def ss_gm (g : Nat → Int32) (q : Int32 → Bool) : Nat → Nat → Nat
  | i, 0 => i
  | i, d + 1 => if q (g i) = true then i else ss_gm g q (i + 1) d
theorem xs_gm_loop {k : Int32} (hm : m ≤ 48) (hc : c < 3) (hg : ∀ j, j < m → fi (3 * j + c) = g j) : ∀ d i, i + d = m → (ss_gm g (ss_pk g m k) i d = m → post (-1)) → (ss_gm g (ss_pk g m k) i d < m → post (nI (ss_gm g (ss_pk g m k) i d))) → wX_findGroupMember_2 post (nI c) k xc xr xn (nI m) R F T N o s cc cr ci cg cn ws wk wl wm fr fi (d + 1) (nI i) := by
  intro d
  induction d with
  | zero => intro i hi h1 h2; exact br_t (nI_le (by omega) (by omega)) (h1 (by rw [ss_gm]; omega))
  | succ d ih =>
    intro i hi h1 h2
    refine br_f (nI_ge (by omega) (by omega)) ?_
    rw [ss_i3, nI_clamp (n := 3 * i + c) (by omega), hg i (by omega)]
    rw [ss_gm] at h1 h2
    refine ⟨vp_in_nI (by omega) (by decide), xs_below hm hc hg (br_c (fun z => ?_) (fun z => ?_))⟩
    · rw [if_pos (show ss_pk g m k (g i) = true from decide_eq_true z)] at h2
      exact h2 (by omega)
    · rw [if_neg (show ¬ ss_pk g m k (g i) = true from by unfold ss_pk; rw [decide_eq_false z]; decide)] at h1 h2
      exact nm_r (nI_1 i) (ih (i + 1) (by omega) h1 h2)
theorem xs_groupMember {k : Int32} (hm : m ≤ 48) (hc : c < 3) (hg : ∀ j, j < m → fi (3 * j + c) = g j) (h1 : ss_gm g (ss_pk g m k) 0 m = m → post (-1)) (h2 : ss_gm g (ss_pk g m k) 0 m < m → post (nI (ss_gm g (ss_pk g m k) 0 m))) : wpX_findGroupMember post (xc, xr, xn, nI m, R, F, T, N, o, s, cc, cr, ci, cg, cn, ws, wk, wl, wm, fr, fi) (nI c) k :=
  ⟨m + 1, xs_gm_loop hm hc hg m 0 (by omega) h1 h2⟩
theorem xs_before_loop {k : Nat} (hm : m ≤ 48) (hc : c < 3) (hg : ∀ j, j < m → fi (3 * j + c) = g j) (hr : ∀ j, j < m → fr j = p j) (hk : k < m) : ∀ d i a, i + d = m → post (nI (a + ss_ct (ss_be g p k) i d)) → wX_countBefore_17 post (nI k) (nI c) (g k) xc xr xn (nI m) R F T N o s cc cr ci cg cn ws wk wl wm fr fi (d + 1) (nI a) (nI i) := by
  intro d
  induction d with
  | zero => intro i a hi hp; exact br_t (nI_le (by omega) (by omega)) hp
  | succ d ih =>
    intro i a hi hp
    have hvi : vp_in (nI i) 48 := vp_in_nI (by omega) (by decide)
    have hvk : vp_in (nI k) 48 := vp_in_nI (by omega) (by decide)
    refine br_f (nI_ge (by omega) (by omega)) ?_
    rw [ss_i3, nI_clamp (n := 3 * i + c) (by omega), hg i (by omega), nI_clamp (n := i) (by omega), nI_clamp (n := k) (by omega), hr i (by omega), hr k hk]
    rw [ss_ct] at hp
    have g1 : ss_be g p k i = true → wX_countBefore_17 post (nI k) (nI c) (g k) xc xr xn (nI m) R F T N o s cc cr ci cg cn ws wk wl wm fr fi (d + 1) (nI (a + 1)) (nI (i + 1)) := by
      intro h
      rw [if_pos h, ← Nat.add_assoc] at hp
      exact ih (i + 1) (a + 1) (by omega) hp
    have g0 : ss_be g p k i = false → wX_countBefore_17 post (nI k) (nI c) (g k) xc xr xn (nI m) R F T N o s cc cr ci cg cn ws wk wl wm fr fi (d + 1) (nI a) (nI (i + 1)) := by
      intro h
      rw [if_neg (by rw [h]; decide), Nat.zero_add] at hp
      exact ih (i + 1) a (by omega) hp
    refine ⟨vp_in_nI (by omega) (by decide), nm_e (br_c (fun z => nm_r (nI_1 a) (nm_r (nI_1 i) (g1 ?_))) (fun z => br_c (fun z2 => ⟨hvi, hvk, br_c (fun z3 => nm_r (nI_1 i) (g0 ?_)) (fun z3 => nm_r (nI_1 a) (nm_r (nI_1 i) (g1 ?_)))⟩) (fun z2 => nm_r (nI_1 i) (g0 ?_))))⟩
    · exact decide_eq_true (Or.inl z)
    · exact decide_eq_false (fun q => q.elim z (fun q => q.2 z3))
    · exact decide_eq_true (Or.inr ⟨z2, z3⟩)
    · exact decide_eq_false (fun q => q.elim z (fun q => z2 q.1))
theorem xs_countBefore {k : Nat} (hm : m ≤ 48) (hc : c < 3) (hg : ∀ j, j < m → fi (3 * j + c) = g j) (hr : ∀ j, j < m → fr j = p j) (hk : k < m) (hp : post (nI (ss_ct (ss_be g p k) 0 m))) : wpX_countBefore post (xc, xr, xn, nI m, R, F, T, N, o, s, cc, cr, ci, cg, cn, ws, wk, wl, wm, fr, fi) (nI k) (nI c) := by
  refine ⟨by rw [ss_i3]; exact vp_in_nI (by omega) (by decide), nm_r (e' := g k) ?_ ⟨m + 1, xs_before_loop hm hc hg hr hk m 0 0 (by omega) (by rw [Nat.zero_add]; exact hp)⟩⟩
  rw [ss_i3, nI_clamp (n := 3 * k + c) (by omega), hg k hk]
theorem xs_order_loop {k : Int32} (hm : m ≤ 48) (hc : c < 3) (hg : ∀ j, j < m → fi (3 * j + c) = g j) (hr : ∀ j, j < m → fr j = p j) : ∀ d i, i + d = m → ps (ss_od p (fun j => nI (ss_ct (ss_be g p j) 0 m)) k i d) (xc, xr, xn, nI m, R, F, T, N, o, s, cc, cr, ci, cg, cn, ws, wk, wl, wm, fr, fi) → wX_order_26 ps (nI c) k xc xr xn (nI m) R F T N o s cc cr ci cg cn ws wk wl wm fr fi (d + 1) (nI i) := by
  intro d
  induction d with
  | zero => intro i hi hp; exact br_t (nI_le (by omega) (by omega)) hp
  | succ d ih =>
    intro i hi hp
    refine br_f (nI_ge (by omega) (by omega)) (xs_countBefore hm hc hg hr (by omega) ?_)
    rw [nI_clamp (n := i) (by omega), hr i (by omega)]
    rw [ss_od] at hp
    refine br_c (fun z => ⟨vp_in_nI (by omega) (by decide), ?_⟩) (fun z => ?_)
    · rw [if_pos z] at hp; exact hp
    · rw [if_neg z] at hp; exact nm_r (nI_1 i) (ih (i + 1) (by omega) hp)
theorem xs_rank_loop {row : Int32} (hm : m ≤ 48) (hc : c < 3) (hg : ∀ j, j < m → fi (3 * j + c) = g j) (hr : ∀ j, j < m → fr j = p j) : ∀ d i, i + d = m → ps (ss_od (fun j => nI (ss_ct (ss_be g p j) 0 m)) p row i d) (xc, xr, xn, nI m, R, F, T, N, o, s, cc, cr, ci, cg, cn, ws, wk, wl, wm, fr, fi) → wX_rank_26 ps (nI c) row xc xr xn (nI m) R F T N o s cc cr ci cg cn ws wk wl wm fr fi (d + 1) (nI i) := by
  intro d
  induction d with
  | zero => intro i hi hp; exact br_t (nI_le (by omega) (by omega)) hp
  | succ d ih =>
    intro i hi hp
    refine br_f (nI_ge (by omega) (by omega)) ⟨vp_in_nI (by omega) (by decide), ?_⟩
    rw [nI_clamp (n := i) (by omega), hr i (by omega)]
    rw [ss_od] at hp
    refine br_c (fun z => ?_) (fun z => ?_)
    · rw [if_pos z] at hp; exact xs_countBefore hm hc hg hr (by omega) hp
    · rw [if_neg z] at hp; exact nm_r (nI_1 i) (ih (i + 1) (by omega) hp)
variable {pq : SX → Prop}
theorem xs_keep_loop {x : Int32} (hm : m ≤ 48) (hc : c < 3) : ∀ (d i k : Nat) (fr fi : Nat → Int32), k ≤ i → i + d = m → (∀ (m' : Nat) (fr' fi' : Nat → Int32), m' ≤ m → ss_L (ss_fa fr' fi') 0 m' = ss_L (ss_fa fr fi) 0 k ++ (ss_L (ss_fa fr fi) i d).filter (fun q => decide (ss_gt q c = x)) → pq (xc, xr, xn, nI m', R, F, T, N, o, s, cc, cr, ci, cg, cn, ws, wk, wl, wm, fr', fi')) → wX_keepOnly_5 pq (nI c) x xc xr xn (nI m) (d + 1) (nI k) (nI i) R F T N o s cc cr ci cg cn ws wk wl wm fr fi := by
  intro d
  induction d with
  | zero =>
    intro i k fr fi hki hi hp
    exact br_t (nI_le (by omega) (by omega)) (hp k fr fi (by omega) (by rw [ss_L, List.filter_nil, List.append_nil]))
  | succ d ih =>
    intro i k fr fi hki hi hp
    refine br_f (nI_ge (by omega) (by omega)) ?_
    rw [ss_i3, nI_clamp (n := 3 * i + c) (by omega)]
    refine ⟨vp_in_nI (by omega) (by decide), br_c (fun z => ⟨vp_in_nI (by omega) (by decide), vp_in_nI (by omega) (by decide), nm_r (e' := upd fr k (fr i)) (by rw [nI_clamp (n := i) (by omega), nI_clamp (n := k) (by omega)]) ?_⟩) (fun z => ?_)⟩
    · obtain ⟨hfk, hfj⟩ := ss_cpyF (fr := fr) (fi := fi) (i := i) (k := k) rfl rfl
      have hz : (fun q : ss_F => decide (ss_gt q c = x)) (ss_fa fr fi i) = true := decide_eq_true (by rw [ss_gt_fa hc]; exact z)
      have hq := ih (i + 1) (k + 1) (upd fr k (fr i)) _ (by omega) (by omega) (fun m' fr' fi' hm' he => hp m' fr' fi' hm' (by
        rw [he, ss_Lsnoc, Nat.zero_add, hfk, List.append_assoc, List.singleton_append, ss_L, List.filter_cons_of_pos (p := fun q : ss_F => decide (ss_gt q c = x)) hz]
        rw [ss_Lcon (W := ss_fa fr fi) k 0 (fun j _ hj => hfj j (by omega))]
        rw [ss_Lcon (W := ss_fa fr fi) d (i + 1) (fun j hj _ => hfj j (by omega))]))
      exact ⟨4, br_f (by decide) ⟨by rw [ss_k30 i]; exact vp_in_nI (by omega) (by decide), by rw [ss_k30 k]; exact vp_in_nI (by omega) (by decide), nm_r (e' := upd fi (3 * k) (fi (3 * i))) (by rw [ss_k30 k, ss_k30 i, nI_clamp (n := 3 * k) (by omega), nI_clamp (n := 3 * i) (by omega)]) (nm_r (e' := 1) (by decide) (br_f (by decide) ⟨by rw [ss_k31 i]; exact vp_in_nI (by omega) (by decide), by rw [ss_k31 k]; exact vp_in_nI (by omega) (by decide), nm_r (e' := upd (upd fi (3 * k) (fi (3 * i))) (3 * k + 1) ((upd fi (3 * k) (fi (3 * i))) (3 * i + 1))) (by rw [ss_k31 k, ss_k31 i, nI_clamp (n := 3 * k + 1) (by omega), nI_clamp (n := 3 * i + 1) (by omega)]) (nm_r (e' := 2) (by decide) (br_f (by decide) ⟨by rw [ss_k32 i]; exact vp_in_nI (by omega) (by decide), by rw [ss_k32 k]; exact vp_in_nI (by omega) (by decide), nm_r (e' := upd (upd (upd fi (3 * k) (fi (3 * i))) (3 * k + 1) ((upd fi (3 * k) (fi (3 * i))) (3 * i + 1))) (3 * k + 2) ((upd (upd fi (3 * k) (fi (3 * i))) (3 * k + 1) ((upd fi (3 * k) (fi (3 * i))) (3 * i + 1))) (3 * i + 2))) (by rw [ss_k32 k, ss_k32 i, nI_clamp (n := 3 * k + 2) (by omega), nI_clamp (n := 3 * i + 2) (by omega)]) (nm_r (e' := 3) (by decide) (br_t (by decide) (nm_r (nI_1 k) (nm_r (nI_1 i) hq))))⟩))⟩))⟩⟩
    · refine nm_r (nI_1 i) (ih (i + 1) k fr fi (by omega) (by omega) (fun m' fr' fi' hm' he => hp m' fr' fi' hm' ?_))
      have hz : ¬ (fun q : ss_F => decide (ss_gt q c = x)) (ss_fa fr fi i) = true := by
        show ¬ decide (ss_gt (ss_fa fr fi i) c = x) = true
        rw [ss_gt_fa hc, decide_eq_false z]; decide
      rw [he, ss_L, List.filter_cons_of_neg (p := fun q : ss_F => decide (ss_gt q c = x)) hz]
theorem xs_keepOnly {x : Int32} (hm : m ≤ 48) (hc : c < 3) (hp : ∀ (m' : Nat) (fr' fi' : Nat → Int32), m' ≤ m → ss_L (ss_fa fr' fi') 0 m' = (ss_L (ss_fa fr fi) 0 m).filter (fun q => decide (ss_gt q c = x)) → pq (xc, xr, xn, nI m', R, F, T, N, o, s, cc, cr, ci, cg, cn, ws, wk, wl, wm, fr', fi')) : wpX_keepOnly pq (xc, xr, xn, nI m, R, F, T, N, o, s, cc, cr, ci, cg, cn, ws, wk, wl, wm, fr, fi) (nI c) x :=
  ⟨m + 1, xs_keep_loop hm hc m 0 0 fr fi (by omega) (by omega) (fun m' fr' fi' hm' he => hp m' fr' fi' hm' he)⟩
end
