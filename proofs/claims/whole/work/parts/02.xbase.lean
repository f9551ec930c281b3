section
variable {xc xr xn xf : Int32} {R F T N o s cc cr ci cg cn ws wk wl wm fr fi : Nat → Int32}
variable {post : Int32 → Prop}
theorem xs_isOpen_t {p : Int32} (h : ss_op o p) (hp : post 1) : wpX_isOpen post (xc, xr, xn, xf, R, F, T, N, o, s, cc, cr, ci, cg, cn, ws, wk, wl, wm, fr, fi) p := by
  obtain ⟨j, hj, rfl, ho⟩ := h
  refine br_f (nI_pos (by omega)) (br_f (nI_ge (b := 4) hj (by decide)) ⟨vp_in_nI hj (by decide), br_f ?_ hp⟩)
  rw [nI_clamp (by omega)]; exact ho
theorem xs_isOpen_f {p : Int32} (h : ¬ ss_op o p) (hp : post 0) : wpX_isOpen post (xc, xr, xn, xf, R, F, T, N, o, s, cc, cr, ci, cg, cn, ws, wk, wl, wm, fr, fi) p := by
  refine br_c (fun _ => hp) (fun h0 => br_c (fun _ => hp) (fun h4 => ?_))
  obtain ⟨j, hj, rfl⟩ := nI_of h0
  have hj4 : j < 4 := Nat.lt_of_not_le (fun hh => h4 (nI_le (a := 4) hh hj))
  refine ⟨vp_in_nI hj4 (by decide), br_c (fun _ => hp) (fun h2 => ?_)⟩
  rw [nI_clamp hj] at h2
  exact absurd ⟨j, hj4, rfl, h2⟩ h
theorem xs_isColumn_t {p : Int32} (h : ss_am p 3) (hp : post 1) : wpX_isColumn post (xc, xr, xn, xf, R, F, T, N, o, s, cc, cr, ci, cg, cn, ws, wk, wl, wm, fr, fi) p := by
  obtain ⟨j, hj, rfl⟩ := h
  exact br_f (nI_pos (by omega)) (br_f (nI_ge (b := 3) hj (by decide)) hp)
theorem xs_isColumn_f {p : Int32} (h : ¬ ss_am p 3) (hp : post 0) : wpX_isColumn post (xc, xr, xn, xf, R, F, T, N, o, s, cc, cr, ci, cg, cn, ws, wk, wl, wm, fr, fi) p := by
  refine br_c (fun _ => hp) (fun h0 => br_c (fun _ => hp) (fun h4 => ?_))
  obtain ⟨j, hj, rfl⟩ := nI_of h0
  have hj4 : j < 3 := Nat.lt_of_not_le (fun hh => h4 (nI_le (a := 3) hh hj))
  exact absurd ⟨j, hj4, rfl⟩ h
theorem xs_canAsk_t {p : Int32} (h : p = -1 ∨ ss_op o p) (hp : post 1) : wpX_canAsk post (xc, xr, xn, xf, R, F, T, N, o, s, cc, cr, ci, cg, cn, ws, wk, wl, wm, fr, fi) p := by
  rcases h with h | h
  · exact br_t h hp
  · exact br_c (fun _ => hp) (fun _ => xs_isOpen_t h (br_f ss_10 hp))
theorem xs_canAsk_f {p : Int32} (h : ¬ (p = -1 ∨ ss_op o p)) (hp : post 0) : wpX_canAsk post (xc, xr, xn, xf, R, F, T, N, o, s, cc, cr, ci, cg, cn, ws, wk, wl, wm, fr, fi) p :=
  br_f (fun z => h (Or.inl z)) (xs_isOpen_f (fun z => h (Or.inr z)) (br_t rfl hp))
theorem xs_fc_loop {row : Int32} {t cnt : Nat} (ht : t < 4) (hc : cc t = nI cnt) (h8 : cnt ≤ 8) : ∀ d i, i + d = cnt → post (ss_fc cr row (8 * t + i) d) → wX_findChange_9 post (nI t) row xc xr xn xf R F T N o s cc cr ci cg cn ws wk wl wm fr fi (d + 1) (nI i) := by
  intro d
  induction d with
  | zero =>
    intro i hi hp
    refine ⟨vp_in_nI ht (by decide), br_t ?_ hp⟩
    rw [nI_clamp (by omega), hc]; exact nI_le (by omega) (by omega)
  | succ d ih =>
    intro i hi hp
    refine ⟨vp_in_nI ht (by decide), br_f ?_ (nm_r (ss_i8 t i) ⟨vp_in_nI (by omega) (by decide), ?_⟩)⟩
    · rw [nI_clamp (by omega), hc]; exact nI_ge (by omega) (by omega)
    · rw [nI_clamp (n := 8 * t + i) (by omega)]
      rw [ss_fc] at hp
      by_cases z : cr (8 * t + i) = row
      · rw [if_pos z] at hp; exact br_t z hp
      · rw [if_neg z] at hp; exact br_f z (nm_r (nI_1 i) (ih (i + 1) (by omega) hp))
theorem xs_findChange {row : Int32} {t cnt : Nat} (ht : t < 4) (hc : cc t = nI cnt) (h8 : cnt ≤ 8) (hp : post (ss_fc cr row (8 * t) cnt)) : wpX_findChange post (xc, xr, xn, xf, R, F, T, N, o, s, cc, cr, ci, cg, cn, ws, wk, wl, wm, fr, fi) (nI t) row :=
  br_f (ss_nm t (by omega)) ⟨cnt + 1, xs_fc_loop ht hc h8 cnt 0 (by omega) hp⟩
theorem xs_findChangeW {row p : Int32} {t cnt : Nat} {tm : Int32} (hw : ss_who xc s cc p t cnt tm) (hp : post (ss_fc cr row (8 * t) cnt)) : wpX_findChange post (xc, xr, xn, xf, R, F, T, N, o, s, cc, cr, ci, cg, cn, ws, wk, wl, wm, fr, fi) p row := by
  rcases hw with ⟨rfl, _, rfl, _⟩ | ⟨rfl, ht, hc, h8, _⟩
  · exact br_t rfl hp
  · exact xs_findChange ht hc h8 hp
theorem xs_timeSeen {p : Int32} {t cnt : Nat} {tm : Int32} (hw : ss_who xc s cc p t cnt tm) (hp : post tm) : wpX_timeSeen post (xc, xr, xn, xf, R, F, T, N, o, s, cc, cr, ci, cg, cn, ws, wk, wl, wm, fr, fi) p := by
  rcases hw with ⟨rfl, _, _, rfl⟩ | ⟨rfl, ht, _, _, rfl⟩
  · exact br_t rfl hp
  · refine br_f (ss_nm t (by omega)) ⟨vp_in_nI ht (by decide), ?_⟩
    rw [nI_clamp (by omega)]; exact hp
theorem xs_holds {i : Nat} {tm : Int32} (hi : i < 40) (hp : post (ss_b (ss_hd (ss_at R F T N i) tm))) : wpX_holds post (xc, xr, xn, xf, R, F, T, N, o, s, cc, cr, ci, cg, cn, ws, wk, wl, wm, fr, fi) (nI i) tm := by
  have hv : vp_in (nI i) 40 := vp_in_nI hi (by decide)
  have hc : (nI i).toNatClampNeg = i := nI_clamp (by omega)
  refine ⟨hv, br_c (fun h1 => ?_) (fun h1 => ⟨hv, br_c (fun h2 => ?_) (fun h2 => ?_)⟩)⟩
  · rw [hc, ss_lt] at h1
    rw [ss_bf] at hp
    · exact hp
    · exact decide_eq_false (fun z => by have := z.1; simp only [ss_at] at this; omega)
  · rw [hc, ss_le] at h2
    rw [ss_bf] at hp
    · exact hp
    · exact decide_eq_false (fun z => by have := z.2; simp only [ss_at] at this; omega)
  · rw [hc, ss_lt] at h1
    rw [hc, ss_le] at h2
    rw [ss_bt] at hp
    · exact hp
    · exact decide_eq_true ⟨by simp only [ss_at]; omega, by simp only [ss_at]; omega⟩
theorem xs_sn_loop {k : Nat} {but : Int32} (hk : k < 40) : ∀ d i, i + d = 4 → post (ss_b (ss_sn o s but (ss_at R F T N k) i d)) → wX_isSeenByOpen_2 post (nI k) but xc xr xn xf R F T N o s cc cr ci cg cn ws wk wl wm fr fi (d + 1) (nI i) := by
  intro d
  induction d with
  | zero => intro i hi hp; exact br_t (nI_le (a := 4) (by omega) (by omega)) hp
  | succ d ih =>
    intro i hi hp
    have hc : (nI i).toNatClampNeg = i := nI_clamp (by omega)
    have hn := ih (i + 1) (by omega)
    rw [ss_sn] at hp
    refine br_f (nI_ge (b := 4) (by omega) (by decide)) ⟨vp_in_nI (by omega) (by decide), ?_⟩
    rw [hc]
    refine br_c (fun z => nm_r (nI_1 i) (hn ?_)) (fun z => br_c (fun z2 => nm_r (nI_1 i) (hn ?_)) (fun z2 => ⟨vp_in_nI (by omega) (by decide), ?_⟩))
    · rw [decide_eq_false (fun q => q.1 z), Bool.false_and, Bool.false_or] at hp; exact hp
    · rw [decide_eq_false (fun q => q.2 z2), Bool.false_and, Bool.false_or] at hp; exact hp
    · rw [decide_eq_true ⟨z, z2⟩, Bool.true_and] at hp
      refine xs_holds hk ?_
      cases hb : ss_hd (ss_at R F T N k) (s i) with
      | false => rw [hb, Bool.false_or] at hp; exact br_t rfl (nm_r (nI_1 i) (hn hp))
      | true => rw [hb, Bool.true_or] at hp; exact br_f ss_10 hp
theorem xs_isSeenByOpen {k : Nat} {but : Int32} (hk : k < 40) (hp : post (ss_b (ss_sn o s but (ss_at R F T N k) 0 4))) : wpX_isSeenByOpen post (xc, xr, xn, xf, R, F, T, N, o, s, cc, cr, ci, cg, cn, ws, wk, wl, wm, fr, fi) (nI k) but :=
  ⟨5, xs_sn_loop hk 4 0 rfl hp⟩
theorem xs_isLive {k : Nat} (hk : k < 40) (hp : post (ss_b (ss_lv xc o s (ss_at R F T N k)))) : wpX_isLive post (xc, xr, xn, xf, R, F, T, N, o, s, cc, cr, ci, cg, cn, ws, wk, wl, wm, fr, fi) (nI k) := by
  unfold wpX_isLive; dsimp only
  refine xs_holds hk ?_
  rw [ss_lv] at hp
  cases hb : ss_hd (ss_at R F T N k) xc with
  | true => rw [hb, Bool.true_or] at hp; exact br_f ss_10 hp
  | false =>
    rw [hb, Bool.false_or] at hp
    refine br_t rfl (xs_isSeenByOpen hk ?_)
    cases hb2 : ss_sn o s (-1) (ss_at R F T N k) 0 4 with
    | true => rw [hb2] at hp; exact br_f ss_10 hp
    | false => rw [hb2] at hp; exact br_t rfl hp
/-- a version of this row that holds at this time -/
def ss_fp (row tm : Int32) (v : ss_V) : Bool := decide (v.1 = row) && ss_hd v tm
theorem xs_fv_loop {row tm : Int32} {n : Nat} (hn : n ≤ 40) (hx : xn = nI n) : ∀ d i, i + d = n → (∀ r, (r = -1 ∧ (ss_L (ss_at R F T N) i d).find? (ss_fp row tm) = none) ∨ (∃ j, j < n ∧ r = nI j ∧ (ss_L (ss_at R F T N) i d).find? (ss_fp row tm) = some (ss_at R F T N j)) → post r) → wX_findVersion_2 post row tm xc xr xn xf R F T N o s cc cr ci cg cn ws wk wl wm fr fi (d + 1) (nI i) := by
  intro d
  induction d with
  | zero =>
    intro i hi hp
    refine br_t ?_ (hp (-1) (Or.inl ⟨rfl, rfl⟩))
    rw [hx]; exact nI_le (by omega) (by omega)
  | succ d ih =>
    intro i hi hp
    have hc : (nI i).toNatClampNeg = i := nI_clamp (by omega)
    have hn' : ss_fp row tm (ss_at R F T N i) = false → wX_findVersion_2 post row tm xc xr xn xf R F T N o s cc cr ci cg cn ws wk wl wm fr fi (d + 1) (nI (i + 1)) := by
      intro hf
      refine ih (i + 1) (by omega) (fun r hr => hp r ?_)
      rw [ss_L, List.find?_cons_of_neg (by rw [hf]; decide)]
      exact hr
    refine br_f (by rw [hx]; exact nI_ge (by omega) (by omega)) ⟨vp_in_nI (by omega) (by decide), ?_⟩
    rw [hc]
    refine br_c (fun z => xs_holds (by omega) ?_) (fun z => nm_r (nI_1 i) (hn' ?_))
    · have e1 : ss_fp row tm (ss_at R F T N i) = ss_hd (ss_at R F T N i) tm := by
        unfold ss_fp; rw [decide_eq_true (show (ss_at R F T N i).1 = row from z), Bool.true_and]
      cases hb : ss_hd (ss_at R F T N i) tm with
      | false => exact br_t rfl (nm_r (nI_1 i) (hn' (by rw [e1, hb])))
      | true =>
        refine br_f ss_10 (hp _ (Or.inr ⟨i, by omega, rfl, ?_⟩))
        rw [ss_L, List.find?_cons_of_pos (by rw [e1, hb])]
    · unfold ss_fp; rw [decide_eq_false (show ¬ (ss_at R F T N i).1 = row from z), Bool.false_and]
theorem xs_findVersion {row tm : Int32} {n : Nat} (hn : n ≤ 40) (hx : xn = nI n) (hp : ∀ r, (r = -1 ∧ (ss_L (ss_at R F T N) 0 n).find? (ss_fp row tm) = none) ∨ (∃ j, j < n ∧ r = nI j ∧ (ss_L (ss_at R F T N) 0 n).find? (ss_fp row tm) = some (ss_at R F T N j)) → post r) : wpX_findVersion post (xc, xr, xn, xf, R, F, T, N, o, s, cc, cr, ci, cg, cn, ws, wk, wl, wm, fr, fi) row tm :=
  ⟨n + 1, xs_fv_loop hn hx n 0 (by omega) hp⟩
end
