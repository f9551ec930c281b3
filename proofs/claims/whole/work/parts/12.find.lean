def ss_pX (ws wk wl wm : Nat → Int32) (q : ss_F) : Nat → Nat → Bool
  | _, 0 => true
  | i, d + 1 => decide (ws i = 0 ∨ (¬ ss_gt q (wk i).toNatClampNeg < wl i ∧ ss_gt q (wk i).toNatClampNeg ≤ wm i)) && ss_pX ws wk wl wm q (i + 1) d
def ss_pY (yk yl ym : Nat → Int32) (q : ss_F) : Nat → Nat → Bool
  | _, 0 => true
  | i, d + 1 => decide (yk i < 0 ∨ (¬ ss_gt q (yk i).toNatClampNeg < yl i ∧ ss_gt q (yk i).toNatClampNeg ≤ ym i)) && ss_pY yk yl ym q (i + 1) d
theorem ss_p_eq {ws wk wl wm yk yl ym : Nat → Int32} (h : ss_wr ws wk wl wm yk yl ym) (q : ss_F) : ss_pX ws wk wl wm q 0 2 = ss_pY yk yl ym q 0 2 := by
  have hk : ∀ i, i < 2 → decide (ws i = 0 ∨ (¬ ss_gt q (wk i).toNatClampNeg < wl i ∧ ss_gt q (wk i).toNatClampNeg ≤ wm i)) = decide (yk i < 0 ∨ (¬ ss_gt q (yk i).toNatClampNeg < yl i ∧ ss_gt q (yk i).toNatClampNeg ≤ ym i)) := by
    intro i hi
    obtain ⟨⟨c, hc, hwc⟩, hh⟩ := h i hi
    rcases hh with ⟨a, b⟩ | ⟨a, b, e1, e2⟩
    · rw [decide_eq_true (Or.inl a), decide_eq_true (Or.inl b)]
    · rw [b, e1, e2]
      have hn : ¬ wk i < 0 := by rw [hwc]; exact nI_pos (by omega)
      by_cases z : ¬ ss_gt q (wk i).toNatClampNeg < wl i ∧ ss_gt q (wk i).toNatClampNeg ≤ wm i
      · rw [decide_eq_true (Or.inr z), decide_eq_true (Or.inr z)]
      · rw [decide_eq_false (fun w => w.elim a z), decide_eq_false (fun w => w.elim hn z)]
  unfold ss_pX ss_pY
  rw [hk 0 (by omega)]
  unfold ss_pX ss_pY
  rw [hk 1 (by omega)]
  rfl
def ss_P (cr : Nat → Int32) (t cnt : Nat) (tm : Int32) (v : ss_V) : Bool := ss_hd v tm && !ss_in cr v.1 (8 * t) cnt
theorem ss_fa_st {fr fi fr' fi' : Nat → Int32} {m : Nat} {p0 p1 p2 p3 : Int32} (h1 : fr' = upd fr m p0) (h2 : fi' = upd (upd (upd fi (3 * m) p1) (3 * m + 1) p2) (3 * m + 2) p3) :
    (∀ j, j < m → ss_fa fr' fi' j = ss_fa fr fi j) ∧ ss_fa fr' fi' m = (p0, p1, p2, p3) := by
  subst h1 h2
  refine ⟨fun j hj => ?_, ?_⟩
  · unfold ss_fa
    rw [ss_un (by omega), ss_un (by omega), ss_un (by omega), ss_un (by omega), ss_un (by omega), ss_un (by omega), ss_un (by omega), ss_un (by omega), ss_un (by omega), ss_un (by omega)]
  · unfold ss_fa
    rw [ss_us, ss_us]
    rw [ss_un (by omega), ss_un (by omega), ss_us, ss_un (by omega), ss_us]
section
variable {xc xr xn xf : Int32} {R F T N o s cc cr ci cg cn ws wk wl wm fr fi : Nat → Int32}
variable {pi : Int32 → Prop} {post : SX → Prop} {t cnt n : Nat}
theorem xs_passes_loop {m : Nat} (hm : m < 48) (hw : ∀ j, j < 2 → ∃ c, c < 3 ∧ wk j = nI c) : ∀ d i, i + d = 2 → pi (ss_b (ss_pX ws wk wl wm (ss_fa fr fi m) i d)) → wX_passes_2 pi (nI m) xc xr xn xf R F T N o s cc cr ci cg cn ws wk wl wm fr fi (d + 1) (nI i) := by
  intro d
  induction d with
  | zero => intro i hi hp; exact br_t (nI_le (a := 2) (by omega) (by omega)) hp
  | succ d ih =>
    intro i hi hp
    have hv : vp_in (nI i) 2 := vp_in_nI (by omega) (by decide)
    have hci : (nI i).toNatClampNeg = i := nI_clamp (by omega)
    obtain ⟨c, hc, hwc⟩ := hw i (by omega)
    have hn := ih (i + 1) (by omega)
    rw [ss_pX, hwc, nI_clamp (by omega), ss_gt_fa hc] at hp
    refine br_f (nI_ge (b := 2) (by omega) (by decide)) ⟨hv, ?_⟩
    rw [hci, hwc, ss_i3, nI_clamp (n := 3 * m + c) (by omega)]
    refine ⟨vp_in_nI (by omega) (by decide), nm_e ⟨hv, br_c (fun z => nm_r (nI_1 i) (hn ?_)) (fun z => ⟨hv, br_c (fun z2 => ?_) (fun z2 => ⟨hv, br_c (fun z3 => nm_r (nI_1 i) (hn ?_)) (fun z3 => ?_)⟩)⟩)⟩⟩
    · rw [decide_eq_true (Or.inl z), Bool.true_and] at hp; exact hp
    · rw [decide_eq_false (fun q => q.elim z (fun q => q.1 z2)), Bool.false_and] at hp; exact hp
    · rw [decide_eq_true (Or.inr ⟨z2, z3⟩), Bool.true_and] at hp; exact hp
    · rw [decide_eq_false (fun q => q.elim z (fun q => z3 q.2)), Bool.false_and] at hp; exact hp
theorem xs_passes {m : Nat} (hm : m < 48) (hw : ∀ j, j < 2 → ∃ c, c < 3 ∧ wk j = nI c) (hp : pi (ss_b (ss_pX ws wk wl wm (ss_fa fr fi m) 0 2))) : wpX_passes pi (xc, xr, xn, xf, R, F, T, N, o, s, cc, cr, ci, cg, cn, ws, wk, wl, wm, fr, fi) (nI m) :=
  ⟨3, xs_passes_loop hm hw 2 0 rfl hp⟩
theorem xs_addFound {m : Nat} {p0 p1 p2 p3 : Int32} (hm : m < 48) (hw : ∀ j, j < 2 → ∃ c, c < 3 ∧ wk j = nI c) (hp : ∀ (m' : Nat) (fr' fi' : Nat → Int32), m' ≤ m + 1 → ss_L (ss_fa fr' fi') 0 m' = ss_L (ss_fa fr fi) 0 m ++ [(p0, p1, p2, p3)].filter (fun q => ss_pX ws wk wl wm q 0 2) → post (xc, xr, xn, nI m', R, F, T, N, o, s, cc, cr, ci, cg, cn, ws, wk, wl, wm, fr', fi')) : wpX_addFound post (xc, xr, xn, nI m, R, F, T, N, o, s, cc, cr, ci, cg, cn, ws, wk, wl, wm, fr, fi) p0 p1 p2 p3 := by
  have hv : vp_in (nI m) 48 := vp_in_nI hm (by decide)
  have hcm : (nI m).toNatClampNeg = m := nI_clamp (by omega)
  refine br_t (nI_lt (b := 48) hm (by decide)) ?_
  rw [ss_j3, nI_1 (3 * m), ss_2 (3 * m), hcm, nI_clamp (n := 3 * m) (by omega), nI_clamp (n := 3 * m + 1) (by omega), nI_clamp (n := 3 * m + 2) (by omega)]
  refine ⟨hv, nm_e ⟨vp_in_nI (by omega) (by decide), nm_e ⟨vp_in_nI (by omega) (by decide), nm_e ⟨vp_in_nI (by omega) (by decide), nm_e ?_⟩⟩⟩⟩
  obtain ⟨h1, h2⟩ := ss_fa_st (fr := fr) (fi := fi) (m := m) (p0 := p0) (p1 := p1) (p2 := p2) (p3 := p3) rfl rfl
  refine xs_passes hm hw ?_
  rw [h2]
  cases hb : ss_pX ws wk wl wm (p0, p1, p2, p3) 0 2 with
  | true =>
    refine br_f ss_10 (nm_r (nI_1 m) (hp (m + 1) _ _ (by omega) ?_))
    rw [ss_Lsnoc, Nat.zero_add, h2, List.filter_cons_of_pos (p := fun q => ss_pX ws wk wl wm q 0 2) hb, List.filter_nil]
    rw [ss_Lcon (W := ss_fa fr fi) m 0 (fun j _ hj => h1 j (by omega))]
  | false =>
    refine br_t rfl (hp m _ _ (by omega) ?_)
    rw [List.filter_cons_of_neg (by rw [hb]; decide), List.filter_nil, List.append_nil]
    rw [ss_Lcon (W := ss_fa fr fi) m 0 (fun j _ hj => h1 j (by omega))]
theorem xs_fr_98 (ht : t < 4) (hc : cc t = nI cnt) (h8 : cnt ≤ 8) (hw : ∀ j, j < 2 → ∃ c, c < 3 ∧ wk j = nI c) : ∀ (d i m : Nat) (fr fi : Nat → Int32), i + d = cnt → m + d ≤ 48 → (∀ (m' : Nat) (fr' fi' : Nat → Int32), m' ≤ m + d → ss_L (ss_fa fr' fi') 0 m' = ss_L (ss_fa fr fi) 0 m ++ (ss_cl cr cn cg (8 * t + i) d).filter (fun q => ss_pX ws wk wl wm q 0 2) → post (xc, xr, xn, nI m', R, F, T, N, o, s, cc, cr, ci, cg, cn, ws, wk, wl, wm, fr', fi')) → wX_findRows_98 post (nI t) (d + 1) (nI i) xc xr xn (nI m) R F T N o s cc cr ci cg cn ws wk wl wm fr fi := by
  intro d
  have hvt : vp_in (nI t) 4 := vp_in_nI ht (by decide)
  induction d with
  | zero =>
    intro i m fr fi hi hm hp
    refine ⟨hvt, br_t ?_ (hp m fr fi (by omega) (by rw [ss_cl, List.filter_nil, List.append_nil]))⟩
    rw [nI_clamp (by omega), hc]; exact nI_le (by omega) (by omega)
  | succ d ih =>
    intro i m fr fi hi hm hp
    have hv : vp_in (nI (8 * t + i)) 32 := vp_in_nI (by omega) (by decide)
    refine ⟨hvt, br_f ?_ (nm_r (ss_i8 t i) ⟨hv, ?_⟩)⟩
    · rw [nI_clamp (by omega), hc]; exact nI_ge (by omega) (by omega)
    · rw [nI_clamp (n := 8 * t + i) (by omega)]
      refine br_c (fun z => nm_r (ss_j3 (8 * t + i)) ⟨hv, vp_in_nI (by omega) (by decide), by rw [nI_1]; exact vp_in_nI (by omega) (by decide), by rw [ss_2]; exact vp_in_nI (by omega) (by decide), ?_⟩) (fun z => ?_)
      · rw [nI_1 (3 * (8 * t + i)), ss_2 (3 * (8 * t + i)), nI_clamp (n := 3 * (8 * t + i)) (by omega), nI_clamp (n := 3 * (8 * t + i) + 1) (by omega), nI_clamp (n := 3 * (8 * t + i) + 2) (by omega)]
        refine xs_addFound (by omega) hw (fun m1 fr1 fi1 hm1 he1 => ?_)
        dsimp only
        refine nm_r (nI_1 i) (ih (i + 1) m1 fr1 fi1 (by omega) (by omega) (fun m' fr' fi' hm' he => hp m' fr' fi' (by omega) ?_))
        rw [he, he1, ss_cl, if_pos z, List.append_assoc]
        congr 1
        exact (List.filter_append [ss_fa cr cn (8 * t + i)] _).symm
      · refine nm_r (nI_1 i) (ih (i + 1) m fr fi (by omega) (by omega) (fun m' fr' fi' hm' he => hp m' fr' fi' (by omega) ?_))
        rw [he, ss_cl, if_neg z]
        rfl
theorem xs_fr_13 {p tm : Int32} (hn : n ≤ 40) (hx : xn = nI n) (hwho : ss_who xc s cc p t cnt tm) (hw : ∀ j, j < 2 → ∃ c, c < 3 ∧ wk j = nI c) : ∀ (d i m : Nat) (fr fi : Nat → Int32), i + d = n → m ≤ i → (∀ (m' : Nat) (fr' fi' : Nat → Int32), m' ≤ n → ss_L (ss_fa fr' fi') 0 m' = ss_L (ss_fa fr fi) 0 m ++ (((ss_L (ss_at R F T N) i d).filter (ss_P cr t cnt tm)).map ss_pr).filter (fun q => ss_pX ws wk wl wm q 0 2) → ((p = -1 → post (xc, xr, xn, nI m', R, F, T, N, o, s, cc, cr, ci, cg, cn, ws, wk, wl, wm, fr', fi')) ∧ (¬ p = -1 → ∃ n98 : Nat, wX_findRows_98 post p n98 0 xc xr xn (nI m') R F T N o s cc cr ci cg cn ws wk wl wm fr' fi'))) → wX_findRows_13 post p tm (d + 1) (nI i) xc xr xn (nI m) R F T N o s cc cr ci cg cn ws wk wl wm fr fi := by
  intro d
  have hb32 : 8 * t + cnt ≤ 32 := by rcases hwho with ⟨_, rfl, rfl, _⟩ | ⟨_, ht, _, h8, _⟩ <;> omega
  induction d with
  | zero =>
    intro i m fr fi hi hm hp
    exact br_t (by rw [hx]; exact nI_le (by omega) (by omega)) (hp m fr fi (by omega) (by rw [ss_L, List.filter_nil, List.map_nil, List.filter_nil, List.append_nil]))
  | succ d ih =>
    intro i m fr fi hi hm hp
    have hv : vp_in (nI i) 40 := vp_in_nI (by omega) (by decide)
    have hci : (nI i).toNatClampNeg = i := nI_clamp (by omega)
    have g0 : ss_P cr t cnt tm (ss_at R F T N i) = false → wX_findRows_13 post p tm (d + 1) (nI (i + 1)) xc xr xn (nI m) R F T N o s cc cr ci cg cn ws wk wl wm fr fi := by
      intro h
      refine ih (i + 1) m fr fi (by omega) (by omega) (fun m' fr' fi' hm' he => hp m' fr' fi' hm' ?_)
      rw [he, ss_L, List.filter_cons_of_neg (by rw [h]; decide)]
    refine br_f (by rw [hx]; exact nI_ge (by omega) (by omega)) (xs_holds (by omega) ?_)
    cases hb : ss_hd (ss_at R F T N i) tm with
    | false => exact br_t rfl (nm_r (nI_1 i) (g0 (by unfold ss_P; rw [hb]; rfl)))
    | true =>
      refine br_f ss_10 ⟨hv, ?_⟩
      rw [hci]
      refine xs_findChangeW hwho (br_c (fun z => nm_r (nI_1 i) (g0 ?_)) (fun z => nm_r (ss_j3 i) ⟨hv, vp_in_nI (by omega) (by decide), by rw [nI_1]; exact vp_in_nI (by omega) (by decide), by rw [ss_2]; exact vp_in_nI (by omega) (by decide), ?_⟩))
      · rw [ss_fc_pos hb32] at z
        unfold ss_P
        rw [show ss_in cr (ss_at R F T N i).1 (8 * t) cnt = true from z, Bool.not_true, Bool.and_false]
      · rw [ss_fc_pos hb32] at z
        have hP : ss_P cr t cnt tm (ss_at R F T N i) = true := by
          unfold ss_P
          rw [show ss_in cr (ss_at R F T N i).1 (8 * t) cnt = false from Bool.of_not_eq_true z, hb]; rfl
        rw [nI_1 (3 * i), ss_2 (3 * i), nI_clamp (n := 3 * i) (by omega), nI_clamp (n := 3 * i + 1) (by omega), nI_clamp (n := 3 * i + 2) (by omega)]
        refine xs_addFound (by omega) hw (fun m1 fr1 fi1 hm1 he1 => ?_)
        dsimp only
        refine nm_r (nI_1 i) (ih (i + 1) m1 fr1 fi1 (by omega) (by omega) (fun m' fr' fi' hm' he => hp m' fr' fi' hm' ?_))
        rw [he, he1, ss_L, List.filter_cons_of_pos hP, List.map_cons, List.append_assoc]
        congr 1
        exact (List.filter_append [ss_pr (ss_at R F T N i)] _).symm
def ss_Q (cr cn cg : Nat → Int32) (t cnt : Nat) (tm : Int32) (pw : ss_F → Bool) (L : List ss_V) : List ss_F :=
  ((L.filter (ss_P cr t cnt tm)).map ss_pr).filter pw ++ (ss_cl cr cn cg (8 * t) cnt).filter pw
theorem xs_findRows {p tm : Int32} (hn : n ≤ 40) (hx : xn = nI n) (hwho : ss_who xc s cc p t cnt tm) (hw : ∀ j, j < 2 → ∃ c, c < 3 ∧ wk j = nI c) (hp : ∀ (m : Nat) (fr' fi' : Nat → Int32), m ≤ 48 → ss_L (ss_fa fr' fi') 0 m = ss_Q cr cn cg t cnt tm (fun q => ss_pX ws wk wl wm q 0 2) (ss_L (ss_at R F T N) 0 n) → post (xc, xr, xn, nI m, R, F, T, N, o, s, cc, cr, ci, cg, cn, ws, wk, wl, wm, fr', fi')) : wpX_findRows post (xc, xr, xn, xf, R, F, T, N, o, s, cc, cr, ci, cg, cn, ws, wk, wl, wm, fr, fi) p := by
  unfold wpX_findRows; dsimp only
  refine xs_timeSeen hwho ⟨n + 1, xs_fr_13 hn hx hwho hw n 0 0 fr fi (by omega) (by omega) (fun m1 fr1 fi1 hm1 he1 => ?_)⟩
  rcases hwho with ⟨rfl, rfl, rfl, rfl⟩ | ⟨rfl, ht, hc, h8, rfl⟩
  · refine br_t rfl (hp m1 fr1 fi1 (by omega) ?_)
    rw [he1]; unfold ss_Q
    rw [ss_cl, List.filter_nil, List.append_nil]; rfl
  · refine br_f (ss_nm t (by omega)) ⟨cnt + 1, xs_fr_98 ht hc h8 hw cnt 0 m1 fr1 fi1 (by omega) (by omega) (fun m' fr' fi' hm' he => hp m' fr' fi' (by omega) ?_)⟩
    rw [he, he1]; rfl
end
section
variable {yn yc yr yf : Int32} {R F T N o s cc cr ci cg cn yk yl ym sr si ke : Nat → Int32}
variable {ps : SY → Prop} {post : Int32 → SY → Prop} {t cnt n : Nat}
theorem ys_add_74 {m : Nat} {q : ss_F} (hm : m < 64) (hq : ss_fa sr si m = q) (hy : ∀ j, j < 2 → yk j < 0 ∨ ∃ c, c < 3 ∧ yk j = nI c) : ∀ (d i : Nat) (b : Bool), i + d = 2 → ((b && ss_pY yk yl ym q i d) = true → ps (yn, yc, yr, nI (m + 1), R, F, T, N, o, s, cc, cr, ci, cg, cn, yk, yl, ym, sr, si, ke)) → ((b && ss_pY yk yl ym q i d) = false → ps (yn, yc, yr, nI m, R, F, T, N, o, s, cc, cr, ci, cg, cn, yk, yl, ym, sr, si, ke)) → wY_add_74 ps yn yc yr (nI m) R F T N o s cc cr ci cg cn yk yl ym sr si ke (d + 1) (ss_b b) (nI i) := by
  intro d
  induction d with
  | zero =>
    intro i b hi h1 h0
    refine br_t (nI_le (a := 2) (by omega) (by omega)) ?_
    rw [ss_pY, Bool.and_true] at h1 h0
    cases b with
    | true => exact br_f ss_10 (nm_r (nI_1 m) (h1 rfl))
    | false => exact br_t rfl (h0 rfl)
  | succ d ih =>
    intro i b hi h1 h0
    have hv : vp_in (nI i) 2 := vp_in_nI (by omega) (by decide)
    have hci : (nI i).toNatClampNeg = i := nI_clamp (by omega)
    have hn := ih (i + 1)
    rw [ss_pY] at h1 h0
    refine br_f (nI_ge (b := 2) (by omega) (by decide)) ⟨hv, nm_r (e' := yk i) (by rw [hci]) ?_⟩
    rw [hci]
    rcases hy i (by omega) with hneg | ⟨c, hc, hyc⟩
    · rw [decide_eq_true (Or.inl hneg), Bool.true_and] at h1 h0
      exact br_t hneg (nm_r (nI_1 i) (hn b (by omega) h1 h0))
    · have hnn : ¬ nI c < 0 := nI_pos (by omega)
      rw [hyc, nI_clamp (n := c) (by omega), ← hq, ss_gt_fa hc] at h1 h0
      rw [hyc, ss_3i, nI_clamp (n := 3 * m + c) (by omega)]
      have hv2 : vp_in (nI (3 * m + c)) 192 := vp_in_nI (by omega) (by decide)
      refine br_f hnn ⟨hv2, hv, br_c (fun z2 => nm_r (nI_1 i) (hn false (by omega) (fun z => nomatch z) (fun _ => h0 ?_))) (fun z2 => ⟨hv2, hv, br_c (fun z3 => nm_r (nI_1 i) ?_) (fun z3 => nm_r (nI_1 i) (hn false (by omega) (fun z => nomatch z) (fun _ => h0 ?_)))⟩)⟩
      · rw [decide_eq_false (fun w => w.elim hnn (fun w => w.1 z2)), Bool.false_and, Bool.and_false]
      · rw [decide_eq_true (Or.inr ⟨z2, z3⟩), Bool.true_and, hq] at h1 h0
        exact hn b (by omega) h1 h0
      · rw [decide_eq_false (fun w => w.elim hnn (fun w => z3 w.2)), Bool.false_and, Bool.and_false]
theorem ys_add_e {m : Nat} {q : ss_F} (hm : m < 64) (hq : ss_fa sr si m = q) (hy : ∀ j, j < 2 → yk j < 0 ∨ ∃ c, c < 3 ∧ yk j = nI c) (hp : ∀ m' : Nat, m' ≤ m + 1 → ss_L (ss_fa sr si) 0 m' = ss_L (ss_fa sr si) 0 m ++ [q].filter (fun q => ss_pY yk yl ym q 0 2) → ps (yn, yc, yr, nI m', R, F, T, N, o, s, cc, cr, ci, cg, cn, yk, yl, ym, sr, si, ke)) : ∃ n74 : Nat, wY_add_74 ps yn yc yr (nI m) R F T N o s cc cr ci cg cn yk yl ym sr si ke n74 1 0 := by
  refine ⟨3, ys_add_74 hm hq hy 2 0 true rfl (fun h => hp (m + 1) (by omega) ?_) (fun h => hp m (by omega) ?_)⟩
  · rw [Bool.true_and] at h
    rw [ss_Lsnoc, Nat.zero_add, hq, List.filter_cons_of_pos (p := fun q => ss_pY yk yl ym q 0 2) h, List.filter_nil]
  · rw [Bool.true_and] at h
    rw [List.filter_cons_of_neg (by rw [h]; decide), List.filter_nil, List.append_nil]
theorem ys_add0 {m i : Nat} {row : Int32} (hm : m < 64) (hi : i < 56) (hy : ∀ j, j < 2 → yk j < 0 ∨ ∃ c, c < 3 ∧ yk j = nI c) (hp : ∀ (m' : Nat) (sr' si' : Nat → Int32), m' ≤ m + 1 → ss_L (ss_fa sr' si') 0 m' = ss_L (ss_fa sr si) 0 m ++ [(row, N (3 * i), N (3 * i + 1), N (3 * i + 2))].filter (fun q => ss_pY yk yl ym q 0 2) → ps (yn, yc, yr, nI m', R, F, T, N, o, s, cc, cr, ci, cg, cn, yk, yl, ym, sr', si', ke)) : wpY_add ps (yn, yc, yr, nI m, R, F, T, N, o, s, cc, cr, ci, cg, cn, yk, yl, ym, sr, si, ke) row 0 (nI i) := by
  refine ⟨vp_in_nI hm (by decide), nm_r (e' := upd sr m row) (by rw [nI_clamp (by omega)]) ?_⟩
  obtain ⟨h1, h2⟩ := ss_fa_st (fr := sr) (fi := si) (m := m) (p0 := row) (p1 := N (3 * i)) (p2 := N (3 * i + 1)) (p3 := N (3 * i + 2)) rfl rfl
  have hq := ys_add_e (ps := ps) (yn := yn) (yc := yc) (yr := yr) (R := R) (F := F) (T := T) (N := N) (o := o) (s := s) (cc := cc) (cr := cr) (ci := ci) (cg := cg) (cn := cn) (ke := ke) (yl := yl) (ym := ym) hm h2 hy (fun m' hm' he => hp m' _ _ hm' (by
    rw [he, ss_Lcon (W := ss_fa sr si) m 0 (fun j _ hj => h1 j (by omega))]))
  exact ⟨4, br_f (by decide) (br_t rfl ⟨by rw [ss_z30 i]; exact vp_in_nI (by omega) (by decide), by rw [ss_z30 m]; exact vp_in_nI (by omega) (by decide), nm_r (e' := upd si (3 * m) (N (3 * i))) (by rw [ss_z30 m, ss_z30 i, nI_clamp (n := 3 * m) (by omega), nI_clamp (n := 3 * i) (by omega)]) (nm_r (e' := 1) (by decide) (br_f (by decide) (br_t rfl ⟨by rw [ss_z31 i]; exact vp_in_nI (by omega) (by decide), by rw [ss_z31 m]; exact vp_in_nI (by omega) (by decide), nm_r (e' := upd (upd si (3 * m) (N (3 * i))) (3 * m + 1) (N (3 * i + 1))) (by rw [ss_z31 m, ss_z31 i, nI_clamp (n := 3 * m + 1) (by omega), nI_clamp (n := 3 * i + 1) (by omega)]) (nm_r (e' := 2) (by decide) (br_f (by decide) (br_t rfl ⟨by rw [ss_z32 i]; exact vp_in_nI (by omega) (by decide), by rw [ss_z32 m]; exact vp_in_nI (by omega) (by decide), nm_r (e' := upd (upd (upd si (3 * m) (N (3 * i))) (3 * m + 1) (N (3 * i + 1))) (3 * m + 2) (N (3 * i + 2))) (by rw [ss_z32 m, ss_z32 i, nI_clamp (n := 3 * m + 2) (by omega), nI_clamp (n := 3 * i + 2) (by omega)]) (nm_r (e' := 3) (by decide) (br_t (by decide) hq))⟩)))⟩)))⟩)⟩
theorem ys_add1 {m i : Nat} {row : Int32} (hm : m < 64) (hi : i < 32) (hy : ∀ j, j < 2 → yk j < 0 ∨ ∃ c, c < 3 ∧ yk j = nI c) (hp : ∀ (m' : Nat) (sr' si' : Nat → Int32), m' ≤ m + 1 → ss_L (ss_fa sr' si') 0 m' = ss_L (ss_fa sr si) 0 m ++ [(row, cn (3 * i), cn (3 * i + 1), cn (3 * i + 2))].filter (fun q => ss_pY yk yl ym q 0 2) → ps (yn, yc, yr, nI m', R, F, T, N, o, s, cc, cr, ci, cg, cn, yk, yl, ym, sr', si', ke)) : wpY_add ps (yn, yc, yr, nI m, R, F, T, N, o, s, cc, cr, ci, cg, cn, yk, yl, ym, sr, si, ke) row 1 (nI i) := by
  refine ⟨vp_in_nI hm (by decide), nm_r (e' := upd sr m row) (by rw [nI_clamp (by omega)]) ?_⟩
  obtain ⟨h1, h2⟩ := ss_fa_st (fr := sr) (fi := si) (m := m) (p0 := row) (p1 := cn (3 * i)) (p2 := cn (3 * i + 1)) (p3 := cn (3 * i + 2)) rfl rfl
  have hq := ys_add_e (ps := ps) (yn := yn) (yc := yc) (yr := yr) (R := R) (F := F) (T := T) (N := N) (o := o) (s := s) (cc := cc) (cr := cr) (ci := ci) (cg := cg) (cn := cn) (ke := ke) (yl := yl) (ym := ym) hm h2 hy (fun m' hm' he => hp m' _ _ hm' (by
    rw [he, ss_Lcon (W := ss_fa sr si) m 0 (fun j _ hj => h1 j (by omega))]))
  exact ⟨4, br_f (by decide) (br_f ss_10 ⟨by rw [ss_z30 i]; exact vp_in_nI (by omega) (by decide), by rw [ss_z30 m]; exact vp_in_nI (by omega) (by decide), nm_r (e' := upd si (3 * m) (cn (3 * i))) (by rw [ss_z30 m, ss_z30 i, nI_clamp (n := 3 * m) (by omega), nI_clamp (n := 3 * i) (by omega)]) (nm_r (e' := 1) (by decide) (br_f (by decide) (br_f ss_10 ⟨by rw [ss_z31 i]; exact vp_in_nI (by omega) (by decide), by rw [ss_z31 m]; exact vp_in_nI (by omega) (by decide), nm_r (e' := upd (upd si (3 * m) (cn (3 * i))) (3 * m + 1) (cn (3 * i + 1))) (by rw [ss_z31 m, ss_z31 i, nI_clamp (n := 3 * m + 1) (by omega), nI_clamp (n := 3 * i + 1) (by omega)]) (nm_r (e' := 2) (by decide) (br_f (by decide) (br_f ss_10 ⟨by rw [ss_z32 i]; exact vp_in_nI (by omega) (by decide), by rw [ss_z32 m]; exact vp_in_nI (by omega) (by decide), nm_r (e' := upd (upd (upd si (3 * m) (cn (3 * i))) (3 * m + 1) (cn (3 * i + 1))) (3 * m + 2) (cn (3 * i + 2))) (by rw [ss_z32 m, ss_z32 i, nI_clamp (n := 3 * m + 2) (by omega), nI_clamp (n := 3 * i + 2) (by omega)]) (nm_r (e' := 3) (by decide) (br_t (by decide) hq))⟩)))⟩)))⟩)⟩
theorem ys_lk_96 (ht : t < 4) (hc : cc t = nI cnt) (h8 : cnt ≤ 8) (hy : ∀ j, j < 2 → yk j < 0 ∨ ∃ c, c < 3 ∧ yk j = nI c) : ∀ (d i m : Nat) (sr si : Nat → Int32), i + d = cnt → m + d ≤ 56 → (∀ (m' : Nat) (sr' si' : Nat → Int32), ss_L (ss_fa sr' si') 0 m' = ss_L (ss_fa sr si) 0 m ++ (ss_cl cr cn cg (8 * t + i) d).filter (fun q => ss_pY yk yl ym q 0 2) → post 1 (yn, yc, yr, nI m', R, F, T, N, o, s, cc, cr, ci, cg, cn, yk, yl, ym, sr', si', ke)) → wY_look_96 post (nI t) (d + 1) (nI (8 * t + i)) yn yc yr (nI m) R F T N o s cc cr ci cg cn yk yl ym sr si ke := by
  intro d
  have e8 : 8 * nI t + cc (nI t).toNatClampNeg = nI (8 * t + cnt) := by rw [nI_clamp (by omega), hc, ss_8i]
  have hvt : vp_in (nI t) 4 := vp_in_nI ht (by decide)
  induction d with
  | zero =>
    intro i m sr si hi hm hp
    refine br_f (nI_pos (by omega)) ⟨hvt, br_t (by rw [e8]; exact nI_le (by omega) (by omega)) (hp m sr si (by rw [ss_cl, List.filter_nil, List.append_nil]))⟩
  | succ d ih =>
    intro i m sr si hi hm hp
    have hv : vp_in (nI (8 * t + i)) 32 := vp_in_nI (by omega) (by decide)
    refine br_f (nI_pos (by omega)) ⟨hvt, br_f (by rw [e8]; exact nI_ge (by omega) (by omega)) ⟨hv, ?_⟩⟩
    rw [nI_clamp (n := 8 * t + i) (by omega)]
    refine br_c (fun z => ⟨hv, ys_add1 (by omega) (by omega) hy (fun m1 sr1 si1 hm1 he1 => ?_)⟩) (fun z => ?_)
    · dsimp only
      refine nm_r (nI_1 (8 * t + i)) (ih (i + 1) m1 sr1 si1 (by omega) (by omega) (fun m' sr' si' he => hp m' sr' si' ?_))
      rw [he, he1, ss_cl, if_pos z, List.append_assoc]
      congr 1
      exact (List.filter_append [ss_fa cr cn (8 * t + i)] _).symm
    · refine nm_r (nI_1 (8 * t + i)) (ih (i + 1) m sr si (by omega) (by omega) (fun m' sr' si' he => hp m' sr' si' ?_))
      rw [he, ss_cl, if_neg z]
      rfl
theorem ys_lk_22 {p tm : Int32} (hn : n ≤ 48) (hx : yn = nI n) (hwho : ss_who yc s cc p t cnt tm) (hy : ∀ j, j < 2 → yk j < 0 ∨ ∃ c, c < 3 ∧ yk j = nI c) : ∀ (d i m : Nat) (sr si : Nat → Int32), i + d = n → m ≤ i → (∀ (m' : Nat) (sr' si' : Nat → Int32), m' ≤ n → ss_L (ss_fa sr' si') 0 m' = ss_L (ss_fa sr si) 0 m ++ (((ss_L (ss_at R F T N) i d).filter (ss_P cr t cnt tm)).map ss_pr).filter (fun q => ss_pY yk yl ym q 0 2) → ∃ n96 : Nat, wY_look_96 post p n96 (8 * p) yn yc yr (nI m') R F T N o s cc cr ci cg cn yk yl ym sr' si' ke) → wY_look_22 post p (d + 1) (nI i) yn yc yr (nI m) R F T N o s cc cr ci cg cn yk yl ym sr si ke := by
  intro d
  have hb32 : 8 * t + cnt ≤ 32 := by rcases hwho with ⟨_, rfl, rfl, _⟩ | ⟨_, ht, _, h8, _⟩ <;> omega
  induction d with
  | zero =>
    intro i m sr si hi hm hp
    exact br_t (by rw [hx]; exact nI_le (by omega) (by omega)) (nm_e (hp m sr si (by omega) (by rw [ss_L, List.filter_nil, List.map_nil, List.filter_nil, List.append_nil])))
  | succ d ih =>
    intro i m sr si hi hm hp
    have hv : vp_in (nI i) 56 := vp_in_nI (by omega) (by decide)
    have hci : (nI i).toNatClampNeg = i := nI_clamp (by omega)
    have g0 : ss_P cr t cnt tm (ss_at R F T N i) = false → wY_look_22 post p (d + 1) (nI (i + 1)) yn yc yr (nI m) R F T N o s cc cr ci cg cn yk yl ym sr si ke := by
      intro h
      refine ih (i + 1) m sr si (by omega) (by omega) (fun m' sr' si' hm' he => hp m' sr' si' hm' ?_)
      rw [he, ss_L, List.filter_cons_of_neg (by rw [h]; decide)]
    have g1 : ss_P cr t cnt tm (ss_at R F T N i) = true → wY_look_73 post (wY_look_22 post p (d + 1)) p (nI i) yn yc yr (nI m) R F T N o s cc cr ci cg cn yk yl ym sr si ke := by
      intro h
      refine ⟨hv, ?_⟩
      rw [hci]
      refine ys_add0 (by omega) (by omega) hy (fun m1 sr1 si1 hm1 he1 => ?_)
      dsimp only
      refine nm_r (nI_1 i) (ih (i + 1) m1 sr1 si1 (by omega) (by omega) (fun m' sr' si' hm' he => hp m' sr' si' hm' ?_))
      rw [he, he1, ss_L, List.filter_cons_of_pos h, List.map_cons, List.append_assoc]
      congr 1
      exact (List.filter_append [ss_pr (ss_at R F T N i)] _).symm
    have g49 : wY_look_49 post (wY_look_22 post p (d + 1)) p (nI i) tm (nI i) yn yc yr (nI m) R F T N o s cc cr ci cg cn yk yl ym sr si ke := by
      unfold wY_look_49
      refine ys_holds (by omega) ?_
      cases hb : ss_hd (ss_at R F T N i) tm with
      | false => exact br_t rfl (nm_r (nI_1 i) (g0 (by unfold ss_P; rw [hb]; rfl)))
      | true =>
        refine br_f ss_10 ?_
        rcases hwho with ⟨rfl, rfl, rfl, rfl⟩ | ⟨rfl, ht, hc, h8, rfl⟩
        · exact br_t ss_m0 (g1 (by unfold ss_P; rw [hb]; rfl))
        · refine br_f (nI_pos (by omega)) ⟨hv, ?_⟩
          rw [hci]
          refine ys_changeOf ht hc h8 (br_c (fun z => nm_r (nI_1 i) (g0 ?_)) (fun z => g1 ?_))
          · rw [ss_fc_pos hb32] at z
            unfold ss_P
            rw [show ss_in cr (ss_at R F T N i).1 (8 * t) cnt = true from z, Bool.not_true, Bool.and_false]
          · rw [ss_fc_pos hb32] at z
            unfold ss_P
            rw [show ss_in cr (ss_at R F T N i).1 (8 * t) cnt = false from Bool.of_not_eq_true z, hb]; rfl
    refine br_f (by rw [hx]; exact nI_ge (by omega) (by omega)) ?_
    rcases hwho with ⟨rfl, _, _, rfl⟩ | ⟨rfl, ht, _, _, rfl⟩
    · exact br_f (by decide) g49
    · refine br_t (nI_pos' (by omega)) ⟨vp_in_nI ht (by decide), ?_⟩
      rw [nI_clamp (n := t) (by omega)]
      exact g49
theorem ys_look {p tm : Int32} (hn : n ≤ 48) (hx : yn = nI n) (hask : p = -1 ∨ ss_op o p) (hwho : ss_who yc s cc p t cnt tm) (hy : ∀ j, j < 2 → yk j < 0 ∨ ∃ c, c < 3 ∧ yk j = nI c) (hp : ∀ (m : Nat) (sr' si' : Nat → Int32), ss_L (ss_fa sr' si') 0 m = ss_Q cr cn cg t cnt tm (fun q => ss_pY yk yl ym q 0 2) (ss_L (ss_at R F T N) 0 n) → post 1 (yn, yc, yr, nI m, R, F, T, N, o, s, cc, cr, ci, cg, cn, yk, yl, ym, sr', si', ke)) : wpY_look post (yn, yc, yr, yf, R, F, T, N, o, s, cc, cr, ci, cg, cn, yk, yl, ym, sr, si, ke) p := by
  have hl : ∃ n22 : Nat, wY_look_22 post p n22 0 yn yc yr 0 R F T N o s cc cr ci cg cn yk yl ym sr si ke := by
    refine ⟨n + 1, ys_lk_22 hn hx hwho hy n 0 0 sr si (by omega) (by omega) (fun m1 sr1 si1 hm1 he1 => ?_)⟩
    rcases hwho with ⟨rfl, rfl, rfl, rfl⟩ | ⟨rfl, ht, hc, h8, rfl⟩
    · refine ⟨1, br_t ss_m0 (hp m1 sr1 si1 ?_)⟩
      rw [he1]; unfold ss_Q
      rw [ss_cl, List.filter_nil, List.append_nil]; rfl
    · rw [ss_8j]
      refine ⟨cnt + 1, ys_lk_96 ht hc h8 hy cnt 0 m1 sr1 si1 (by omega) (by omega) (fun m' sr' si' he => hp m' sr' si' ?_)⟩
      rw [he, he1]; rfl
  refine br_c (fun _ => hl) (fun hne => ?_)
  rcases hask with h | ho
  · exact absurd h hne
  · exact ys_isOpen_t ho (br_f ss_10 hl)
theorem ys_look_f {p : Int32} (hask : ¬ (p = -1 ∨ ss_op o p)) (hp : post 0 (yn, yc, yr, 0, R, F, T, N, o, s, cc, cr, ci, cg, cn, yk, yl, ym, sr, si, ke)) : wpY_look post (yn, yc, yr, yf, R, F, T, N, o, s, cc, cr, ci, cg, cn, yk, yl, ym, sr, si, ke) p :=
  br_f (fun z => hask (Or.inl z)) (ys_isOpen_f (fun z => hask (Or.inr z)) (br_t rfl hp))
end
