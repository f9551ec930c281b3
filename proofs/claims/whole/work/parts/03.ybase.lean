section
variable {yn yc yr yf : Int32} {R F T N o s cc cr ci cg cn yk yl ym sr si ke : Nat → Int32}
variable {post : Int32 → Prop}
theorem ys_among_t {p q : Int32} {n : Nat} (hq : q = nI n) (hn : n < 2 ^ 31) (h : ss_am p n) (hp : post 1) : wpY_among post (yn, yc, yr, yf, R, F, T, N, o, s, cc, cr, ci, cg, cn, yk, yl, ym, sr, si, ke) p q := by
  obtain ⟨j, hj, rfl⟩ := h
  subst hq
  exact br_f (nI_pos (by omega)) (br_f (nI_ge hj hn) hp)
theorem ys_among_f {p q : Int32} {n : Nat} (hq : q = nI n) (hn : n < 2 ^ 31) (h : ¬ ss_am p n) (hp : post 0) : wpY_among post (yn, yc, yr, yf, R, F, T, N, o, s, cc, cr, ci, cg, cn, yk, yl, ym, sr, si, ke) p q := by
  subst hq
  refine br_c (fun _ => hp) (fun h0 => br_c (fun _ => hp) (fun h4 => ?_))
  obtain ⟨j, hj, rfl⟩ := nI_of h0
  exact absurd ⟨j, Nat.lt_of_not_le (fun hh => h4 (nI_le hh hj)), rfl⟩ h
theorem ys_isOpen_t {p : Int32} (h : ss_op o p) (hp : post 1) : wpY_isOpen post (yn, yc, yr, yf, R, F, T, N, o, s, cc, cr, ci, cg, cn, yk, yl, ym, sr, si, ke) p := by
  obtain ⟨j, hj, rfl, ho⟩ := h
  unfold wpY_isOpen; dsimp only
  refine ys_among_t (n := 4) rfl (by decide) ⟨j, hj, rfl⟩ (br_f ss_10 ⟨vp_in_nI hj (by decide), br_f ?_ hp⟩)
  rw [nI_clamp (by omega)]; exact ho
theorem ys_isOpen_f {p : Int32} (h : ¬ ss_op o p) (hp : post 0) : wpY_isOpen post (yn, yc, yr, yf, R, F, T, N, o, s, cc, cr, ci, cg, cn, yk, yl, ym, sr, si, ke) p := by
  unfold wpY_isOpen; dsimp only
  by_cases ha : ss_am p 4
  · refine ys_among_t (n := 4) rfl (by decide) ha ?_
    obtain ⟨j, hj, rfl⟩ := ha
    refine br_f ss_10 ⟨vp_in_nI hj (by decide), br_t ?_ hp⟩
    rw [nI_clamp (by omega)]
    exact Classical.byContradiction (fun z => h ⟨j, hj, rfl, z⟩)
  · exact ys_among_f (n := 4) rfl (by decide) ha (br_t rfl hp)
theorem ys_fc_loop {row : Int32} {t cnt : Nat} (ht : t < 4) (hc : cc t = nI cnt) (h8 : cnt ≤ 8) : ∀ d i, i + d = cnt → post (ss_fc cr row (8 * t + i) d) → wY_changeOf_5 post (nI t) row yn yc yr yf R F T N o s cc cr ci cg cn yk yl ym sr si ke (d + 1) (nI (8 * t + i)) := by
  intro d
  have e8 : 8 * nI t + cc (nI t).toNatClampNeg = nI (8 * t + cnt) := by rw [nI_clamp (by omega), hc, ss_8i]
  induction d with
  | zero =>
    intro i hi hp
    refine ⟨vp_in_nI ht (by decide), br_t ?_ hp⟩
    rw [e8]; exact nI_le (by omega) (by omega)
  | succ d ih =>
    intro i hi hp
    refine ⟨vp_in_nI ht (by decide), br_f ?_ ⟨vp_in_nI (by omega) (by decide), ?_⟩⟩
    · rw [e8]; exact nI_ge (by omega) (by omega)
    · rw [nI_clamp (n := 8 * t + i) (by omega)]
      rw [ss_fc] at hp
      by_cases z : cr (8 * t + i) = row
      · rw [if_pos z] at hp; exact br_t z hp
      · rw [if_neg z] at hp; exact br_f z (nm_r (nI_1 (8 * t + i)) (ih (i + 1) (by omega) hp))
theorem ys_changeOf {row : Int32} {t cnt : Nat} (ht : t < 4) (hc : cc t = nI cnt) (h8 : cnt ≤ 8) (hp : post (ss_fc cr row (8 * t) cnt)) : wpY_changeOf post (yn, yc, yr, yf, R, F, T, N, o, s, cc, cr, ci, cg, cn, yk, yl, ym, sr, si, ke) (nI t) row :=
  nm_r (ss_8j t) ⟨cnt + 1, ys_fc_loop ht hc h8 cnt 0 (by omega) hp⟩
theorem ys_holds {i : Nat} {tm : Int32} (hi : i < 56) (hp : post (ss_b (ss_hd (ss_at R F T N i) tm))) : wpY_holds post (yn, yc, yr, yf, R, F, T, N, o, s, cc, cr, ci, cg, cn, yk, yl, ym, sr, si, ke) (nI i) tm := by
  have hv : vp_in (nI i) 56 := vp_in_nI hi (by decide)
  have hc : (nI i).toNatClampNeg = i := nI_clamp (by omega)
  refine ⟨hv, br_c (fun h1 => ?_) (fun h1 => ⟨hv, br_c (fun h2 => ?_) (fun h2 => ?_)⟩)⟩
  · rw [hc, ss_lt] at h1
    rw [ss_bf] at hp
    · exact hp
    · exact decide_eq_false (fun z => by have := z.1; simp only [ss_at] at this; omega)
  · rw [hc, ss_le] at h2
    rw [ss_bf] at hp
    · exact hp
    · exact decide_eq_false (fun z => by have := z.2; simp only [ss_at] at this; omega)
  · rw [hc, ss_lt] at h1
    rw [hc, ss_le] at h2
    rw [ss_bt] at hp
    · exact hp
    · exact decide_eq_true ⟨by simp only [ss_at]; omega, by simp only [ss_at]; omega⟩
theorem ys_lv_loop1 {k : Nat} {but : Int32} (hp : post 1) : ∀ d i, i + d = 4 → wY_live_13 post (nI k) but yn yc yr yf R F T N o s cc cr ci cg cn yk yl ym sr si ke (d + 1) 1 (nI i) := by
  intro d
  induction d with
  | zero => intro i hi; exact br_t (nI_le (a := 4) (by omega) (by omega)) ⟨rfl, hp⟩
  | succ d ih =>
    intro i hi
    exact br_f (nI_ge (b := 4) (by omega) (by decide)) (br_f ss_10 (nm_r (nI_1 i) (ih (i + 1) (by omega))))
theorem ys_lv_loop {k : Nat} {but : Int32} (hk : k < 56) : ∀ d i, i + d = 4 → post (ss_b (ss_sn o s but (ss_at R F T N k) i d)) → wY_live_13 post (nI k) but yn yc yr yf R F T N o s cc cr ci cg cn yk yl ym sr si ke (d + 1) 0 (nI i) := by
  intro d
  induction d with
  | zero => intro i hi hp; exact br_t (nI_le (a := 4) (by omega) (by omega)) ⟨rfl, hp⟩
  | succ d ih =>
    intro i hi hp
    have hc : (nI i).toNatClampNeg = i := nI_clamp (by omega)
    have hn := ih (i + 1) (by omega)
    rw [ss_sn] at hp
    refine br_f (nI_ge (b := 4) (by omega) (by decide)) (br_t rfl ⟨vp_in_nI (by omega) (by decide), ?_⟩)
    rw [hc]
    refine br_c (fun z => nm_r (nI_1 i) (hn ?_)) (fun z => br_c (fun z2 => nm_r (nI_1 i) (hn ?_)) (fun z2 => ⟨vp_in_nI (by omega) (by decide), ?_⟩))
    · rw [decide_eq_false (fun q => q.1 z), Bool.false_and, Bool.false_or] at hp; exact hp
    · rw [decide_eq_false (fun q => q.2 z2), Bool.false_and, Bool.false_or] at hp; exact hp
    · rw [decide_eq_true ⟨z, z2⟩, Bool.true_and] at hp
      refine ys_holds hk ?_
      cases hb : ss_hd (ss_at R F T N k) (s i) with
      | false => rw [hb, Bool.false_or] at hp; exact br_t rfl (nm_r (nI_1 i) (hn hp))
      | true => rw [hb, Bool.true_or] at hp; exact br_f ss_10 (nm_r (nI_1 i) (ys_lv_loop1 hp d (i + 1) (by omega)))
theorem ys_live {k : Nat} (hk : k < 56) (hp : post (ss_b (ss_lv yc o s (ss_at R F T N k)))) : wpY_live post (yn, yc, yr, yf, R, F, T, N, o, s, cc, cr, ci, cg, cn, yk, yl, ym, sr, si, ke) (nI k) (-1) := by
  unfold wpY_live; dsimp only
  refine ys_holds hk ?_
  rw [ss_lv] at hp
  cases hb : ss_hd (ss_at R F T N k) yc with
  | true => rw [hb, Bool.true_or] at hp; exact ⟨5, ys_lv_loop1 hp 4 0 rfl⟩
  | false => rw [hb, Bool.false_or] at hp; exact ⟨5, ys_lv_loop hk 4 0 rfl hp⟩
theorem ys_fv_loop {row tm : Int32} {n : Nat} (hn : n ≤ 56) (hx : yn = nI n) : ∀ d i, i + d = n → (∀ r, (r = -1 ∧ (ss_L (ss_at R F T N) i d).find? (ss_fp row tm) = none) ∨ (∃ j, j < n ∧ r = nI j ∧ (ss_L (ss_at R F T N) i d).find? (ss_fp row tm) = some (ss_at R F T N j)) → post r) → wY_versionAt_2 post row tm yn yc yr yf R F T N o s cc cr ci cg cn yk yl ym sr si ke (d + 1) (nI i) := by
  intro d
  induction d with
  | zero =>
    intro i hi hp
    refine br_t ?_ (hp (-1) (Or.inl ⟨rfl, rfl⟩))
    rw [hx]; exact nI_le (by omega) (by omega)
  | succ d ih =>
    intro i hi hp
    have hc : (nI i).toNatClampNeg = i := nI_clamp (by omega)
    have hn' : ss_fp row tm (ss_at R F T N i) = false → wY_versionAt_2 post row tm yn yc yr yf R F T N o s cc cr ci cg cn yk yl ym sr si ke (d + 1) (nI (i + 1)) := by
      intro hf
      refine ih (i + 1) (by omega) (fun r hr => hp r ?_)
      rw [ss_L, List.find?_cons_of_neg (by rw [hf]; decide)]
      exact hr
    refine br_f (by rw [hx]; exact nI_ge (by omega) (by omega)) ⟨vp_in_nI (by omega) (by decide), ?_⟩
    rw [hc]
    refine br_c (fun z => ys_holds (by omega) ?_) (fun z => nm_r (nI_1 i) (hn' ?_))
    · have e1 : ss_fp row tm (ss_at R F T N i) = ss_hd (ss_at R F T N i) tm := by
        unfold ss_fp; rw [decide_eq_true (show (ss_at R F T N i).1 = row from z), Bool.true_and]
      cases hb : ss_hd (ss_at R F T N i) tm with
      | false => exact br_t rfl (nm_r (nI_1 i) (hn' (by rw [e1, hb])))
      | true =>
        refine br_f ss_10 (hp _ (Or.inr ⟨i, by omega, rfl, ?_⟩))
        rw [ss_L, List.find?_cons_of_pos (by rw [e1, hb])]
    · unfold ss_fp; rw [decide_eq_false (show ¬ (ss_at R F T N i).1 = row from z), Bool.false_and]
theorem ys_versionAt {row tm : Int32} {n : Nat} (hn : n ≤ 56) (hx : yn = nI n) (hp : ∀ r, (r = -1 ∧ (ss_L (ss_at R F T N) 0 n).find? (ss_fp row tm) = none) ∨ (∃ j, j < n ∧ r = nI j ∧ (ss_L (ss_at R F T N) 0 n).find? (ss_fp row tm) = some (ss_at R F T N j)) → post r) : wpY_versionAt post (yn, yc, yr, yf, R, F, T, N, o, s, cc, cr, ci, cg, cn, yk, yl, ym, sr, si, ke) row tm :=
  ⟨n + 1, ys_fv_loop hn hx n 0 (by omega) hp⟩
theorem ys_alive_loop {n : Nat} (hn : n ≤ 56) (hx : yn = nI n) : ∀ d i c, i + d = n → post (nI (c + (ss_L (ss_at R F T N) i d).countP (ss_lv yc o s))) → wY_alive_4 post yn yc yr yf R F T N o s cc cr ci cg cn yk yl ym sr si ke (d + 1) (nI c) (nI i) := by
  intro d
  induction d with
  | zero => intro i c hi hp; exact br_t (by rw [hx]; exact nI_le (by omega) (by omega)) hp
  | succ d ih =>
    intro i c hi hp
    refine br_f (by rw [hx]; exact nI_ge (by omega) (by omega)) (ys_live (by omega) ?_)
    rw [ss_L, List.countP_cons] at hp
    cases hb : ss_lv yc o s (ss_at R F T N i) with
    | false =>
      rw [hb] at hp
      exact br_t rfl (nm_r (nI_1 i) (ih (i + 1) c (by omega) hp))
    | true =>
      rw [hb, if_pos rfl, ← Nat.add_assoc, Nat.add_right_comm] at hp
      exact br_f ss_10 (nm_r (nI_1 c) (nm_r (nI_1 i) (ih (i + 1) (c + 1) (by omega) hp)))
theorem ys_alive {n : Nat} (hn : n ≤ 56) (hx : yn = nI n) (hp : post (nI ((ss_L (ss_at R F T N) 0 n).countP (ss_lv yc o s)))) : wpY_alive post (yn, yc, yr, yf, R, F, T, N, o, s, cc, cr, ci, cg, cn, yk, yl, ym, sr, si, ke) :=
  ⟨n + 1, ys_alive_loop hn hx n 0 0 (by omega) (by rw [Nat.zero_add]; exact hp)⟩
theorem ys_there_loop {n : Nat} (hn : n ≤ 56) (hx : yn = nI n) {p : Int32} : ∀ d i c, i + d = n → wY_state_107 post p (nI (c + (ss_L (ss_at R F T N) i d).countP (fun v => ss_hd v yc))) yn yc yr yf R F T N o s cc cr ci cg cn yk yl ym sr si ke → wY_state_73 post p yn yc yr yf R F T N o s cc cr ci cg cn yk yl ym sr si ke (d + 1) (nI c) (nI i) := by
  intro d
  induction d with
  | zero => intro i c hi hp; exact br_t (by rw [hx]; exact nI_le (by omega) (by omega)) hp
  | succ d ih =>
    intro i c hi hp
    refine br_f (by rw [hx]; exact nI_ge (by omega) (by omega)) (ys_holds (by omega) ?_)
    rw [ss_L, List.countP_cons] at hp
    cases hb : ss_hd (ss_at R F T N i) yc with
    | false =>
      rw [hb] at hp
      exact br_t rfl (nm_r (show nI c + 0 = nI c from nI_add c 0) (nm_r (nI_1 i) (ih (i + 1) c (by omega) hp)))
    | true =>
      rw [hb, if_pos rfl, ← Nat.add_assoc, Nat.add_right_comm] at hp
      exact br_f ss_10 (nm_r (nI_1 c) (nm_r (nI_1 i) (ih (i + 1) (c + 1) (by omega) hp)))
/-- how many of them are not zero -/
def ss_no (o : Nat → Int32) : Nat → Nat → Nat
  | _, 0 => 0
  | i, d + 1 => (if o i = 0 then 0 else 1) + ss_no o (i + 1) d
theorem ys_open_loop {p : Int32} : ∀ d i c, i + d = 4 → wY_state_66 post p (nI (c + ss_no o i d)) yn yc yr yf R F T N o s cc cr ci cg cn yk yl ym sr si ke → wY_state_38 post p yn yc yr yf R F T N o s cc cr ci cg cn yk yl ym sr si ke (d + 1) (nI c) (nI i) := by
  intro d
  induction d with
  | zero => intro i c hi hp; exact br_t (nI_le (a := 4) (by omega) (by omega)) hp
  | succ d ih =>
    intro i c hi hp
    have hc : (nI i).toNatClampNeg = i := nI_clamp (by omega)
    rw [ss_no] at hp
    refine br_f (nI_ge (b := 4) (by omega) (by decide)) ⟨vp_in_nI (by omega) (by decide), ?_⟩
    rw [hc]
    refine br_c (fun z => ?_) (fun z => ?_)
    · rw [if_pos z, Nat.zero_add] at hp
      exact nm_r (show nI c + 0 = nI c from nI_add c 0) (nm_r (nI_1 i) (ih (i + 1) c (by omega) hp))
    · rw [if_neg z, ← Nat.add_assoc] at hp
      exact nm_r (nI_1 c) (nm_r (nI_1 i) (ih (i + 1) (c + 1) (by omega) hp))
end
section
variable {xc xr xn xf : Int32} {R F T N o s cc cr ci cg cn ws wk wl wm fr fi : Nat → Int32}
variable {post : Int32 → Prop}
theorem xs_countLive_loop {n : Nat} (hn : n ≤ 40) (hx : xn = nI n) : ∀ d i c, i + d = n → post (nI (c + (ss_L (ss_at R F T N) i d).countP (ss_lv xc o s))) → wX_countLive_4 post xc xr xn xf R F T N o s cc cr ci cg cn ws wk wl wm fr fi (d + 1) (nI c) (nI i) := by
  intro d
  induction d with
  | zero => intro i c hi hp; exact br_t (by rw [hx]; exact nI_le (by omega) (by omega)) hp
  | succ d ih =>
    intro i c hi hp
    refine br_f (by rw [hx]; exact nI_ge (by omega) (by omega)) (xs_isLive (by omega) ?_)
    rw [ss_L, List.countP_cons] at hp
    cases hb : ss_lv xc o s (ss_at R F T N i) with
    | false =>
      rw [hb] at hp
      exact br_t rfl (nm_r (nI_1 i) (ih (i + 1) c (by omega) hp))
    | true =>
      rw [hb, if_pos rfl, ← Nat.add_assoc, Nat.add_right_comm] at hp
      exact br_f ss_10 (nm_r (nI_1 c) (nm_r (nI_1 i) (ih (i + 1) (c + 1) (by omega) hp)))
theorem xs_countLive {n : Nat} (hn : n ≤ 40) (hx : xn = nI n) (hp : post (nI ((ss_L (ss_at R F T N) 0 n).countP (ss_lv xc o s)))) : wpX_countLive post (xc, xr, xn, xf, R, F, T, N, o, s, cc, cr, ci, cg, cn, ws, wk, wl, wm, fr, fi) :=
  ⟨n + 1, xs_countLive_loop hn hx n 0 0 (by omega) (by rw [Nat.zero_add]; exact hp)⟩
theorem xs_countThere_loop {n : Nat} (hn : n ≤ 40) (hx : xn = nI n) : ∀ d i c, i + d = n → post (nI (c + (ss_L (ss_at R F T N) i d).countP (fun v => ss_hd v xc))) → wX_countThere_4 post xc xr xn xf R F T N o s cc cr ci cg cn ws wk wl wm fr fi (d + 1) (nI c) (nI i) := by
  intro d
  induction d with
  | zero => intro i c hi hp; exact br_t (by rw [hx]; exact nI_le (by omega) (by omega)) hp
  | succ d ih =>
    intro i c hi hp
    refine br_f (by rw [hx]; exact nI_ge (by omega) (by omega)) (xs_holds (by omega) ?_)
    rw [ss_L, List.countP_cons] at hp
    cases hb : ss_hd (ss_at R F T N i) xc with
    | false =>
      rw [hb] at hp
      exact br_t rfl (nm_r (nI_1 i) (ih (i + 1) c (by omega) hp))
    | true =>
      rw [hb, if_pos rfl, ← Nat.add_assoc, Nat.add_right_comm] at hp
      exact br_f ss_10 (nm_r (nI_1 c) (nm_r (nI_1 i) (ih (i + 1) (c + 1) (by omega) hp)))
theorem xs_countThere {n : Nat} (hn : n ≤ 40) (hx : xn = nI n) (hp : post (nI ((ss_L (ss_at R F T N) 0 n).countP (fun v => ss_hd v xc)))) : wpX_countThere post (xc, xr, xn, xf, R, F, T, N, o, s, cc, cr, ci, cg, cn, ws, wk, wl, wm, fr, fi) :=
  ⟨n + 1, xs_countThere_loop hn hx n 0 0 (by omega) (by rw [Nat.zero_add]; exact hp)⟩
theorem xs_countOpen_loop : ∀ d i c, i + d = 4 → post (nI (c + ss_no o i d)) → wX_countOpen_4 post xc xr xn xf R F T N o s cc cr ci cg cn ws wk wl wm fr fi (d + 1) (nI c) (nI i) := by
  intro d
  induction d with
  | zero => intro i c hi hp; exact br_t (nI_le (a := 4) (by omega) (by omega)) hp
  | succ d ih =>
    intro i c hi hp
    have hc : (nI i).toNatClampNeg = i := nI_clamp (by omega)
    rw [ss_no] at hp
    refine br_f (nI_ge (b := 4) (by omega) (by decide)) ⟨vp_in_nI (by omega) (by decide), ?_⟩
    rw [hc]
    refine br_c (fun z => ?_) (fun z => ?_)
    · rw [if_pos z, Nat.zero_add] at hp
      exact nm_r (nI_1 i) (ih (i + 1) c (by omega) hp)
    · rw [if_neg z, ← Nat.add_assoc] at hp
      exact nm_r (nI_1 c) (nm_r (nI_1 i) (ih (i + 1) (c + 1) (by omega) hp))
theorem xs_countOpen (hp : post (nI (ss_no o 0 4))) : wpX_countOpen post (xc, xr, xn, xf, R, F, T, N, o, s, cc, cr, ci, cg, cn, ws, wk, wl, wm, fr, fi) :=
  ⟨5, xs_countOpen_loop 4 0 0 rfl (by rw [Nat.zero_add]; exact hp)⟩
end
