section
variable {yn yc yr yf : Int32} {R F T N o s cc cr ci cg cn yk yl ym sr si ke : Nat → Int32}
variable {p6 : Int64 → Prop} {post : Int32 → Prop} {ps : Int32 → SY → Prop} {m c : Nat} {g p : Nat → Int32}
theorem ys_first_loop {k : Nat} (hm : m ≤ 48) (hc : c < 3) (hg : ∀ j, j < m → si (3 * j + c) = g j) (hk : k < m) : ∀ d i, i + d = k → post (ss_b (ss_fst g (g k) i d)) → wY_first_2 post (nI k) (nI c) yn yc yr yf R F T N o s cc cr ci cg cn yk yl ym sr si ke (d + 1) (nI i) := by
  intro d
  induction d with
  | zero => intro i hi hp; exact br_t (nI_le (by omega) (by omega)) hp
  | succ d ih =>
    intro i hi hp
    refine br_f (nI_ge (by omega) (by omega)) ?_
    rw [ss_3i, ss_3i, nI_clamp (n := 3 * i + c) (by omega), nI_clamp (n := 3 * k + c) (by omega), hg i (by omega), hg k hk]
    rw [ss_fst] at hp
    refine ⟨vp_in_nI (by omega) (by decide), vp_in_nI (by omega) (by decide), br_c (fun z => ?_) (fun z => ?_)⟩
    · rw [decide_eq_false (fun q => q z), Bool.false_and] at hp; exact hp
    · rw [decide_eq_true z, Bool.true_and] at hp; exact nm_r (nI_1 i) (ih (i + 1) (by omega) hp)
theorem ys_first {k : Nat} (hm : m ≤ 48) (hc : c < 3) (hg : ∀ j, j < m → si (3 * j + c) = g j) (hk : k < m) (hp : post (ss_b (ss_fst g (g k) 0 k))) : wpY_first post (yn, yc, yr, yf, R, F, T, N, o, s, cc, cr, ci, cg, cn, yk, yl, ym, sr, si, ke) (nI k) (nI c) :=
  ⟨k + 1, ys_first_loop hm hc hg hk k 0 (by omega) hp⟩
theorem ys_diff_loop (hm : m ≤ 48) (hc : c < 3) (hg : ∀ j, j < m → si (3 * j + c) = g j) : ∀ d i a, i + d = m → post (nI (a + ss_ct (ss_pd g) i d)) → wY_different_4 post (nI c) yn yc yr (nI m) R F T N o s cc cr ci cg cn yk yl ym sr si ke (d + 1) (nI a) (nI i) := by
  intro d
  induction d with
  | zero => intro i a hi hp; exact br_t (nI_le (by omega) (by omega)) hp
  | succ d ih =>
    intro i a hi hp
    refine br_f (nI_ge (by omega) (by omega)) (ys_first hm hc hg (by omega) ?_)
    rw [ss_ct] at hp
    cases hb : ss_fst g (g i) 0 i with
    | false =>
      rw [if_neg (by unfold ss_pd; rw [hb]; decide), Nat.zero_add] at hp
      exact br_t rfl (nm_r (nI_1 i) (ih (i + 1) a (by omega) hp))
    | true =>
      rw [if_pos (show ss_pd g i = true from hb), ← Nat.add_assoc] at hp
      exact br_f ss_10 (nm_r (nI_1 a) (nm_r (nI_1 i) (ih (i + 1) (a + 1) (by omega) hp)))
theorem ys_different (hm : m ≤ 48) (hc : c < 3) (hg : ∀ j, j < m → si (3 * j + c) = g j) (hp : post (nI (ss_ct (ss_pd g) 0 m))) : wpY_different post (yn, yc, yr, nI m, R, F, T, N, o, s, cc, cr, ci, cg, cn, yk, yl, ym, sr, si, ke) (nI c) :=
  ⟨m + 1, ys_diff_loop hm hc hg m 0 0 (by omega) (by rw [Nat.zero_add]; exact hp)⟩
theorem ys_below_loop {x : Int32} (hm : m ≤ 48) (hc : c < 3) (hg : ∀ j, j < m → si (3 * j + c) = g j) : ∀ d i a, i + d = m → post (nI (a + ss_ct (ss_pb g x) i d)) → wY_below_5 post x (nI c) yn yc yr (nI m) R F T N o s cc cr ci cg cn yk yl ym sr si ke (d + 1) (nI a) (nI i) := by
  intro d
  induction d with
  | zero => intro i a hi hp; exact br_t (nI_le (by omega) (by omega)) hp
  | succ d ih =>
    intro i a hi hp
    refine br_f (nI_ge (by omega) (by omega)) ?_
    rw [ss_3i, nI_clamp (n := 3 * i + c) (by omega), hg i (by omega)]
    rw [ss_ct] at hp
    refine ⟨vp_in_nI (by omega) (by decide), br_c (fun z => ?_) (fun z => ys_first hm hc hg (by omega) ?_)⟩
    · rw [if_neg (by unfold ss_pb; rw [decide_eq_false (fun q => q z), Bool.false_and]; decide), Nat.zero_add] at hp
      exact nm_r (nI_1 i) (ih (i + 1) a (by omega) hp)
    · cases hb : ss_fst g (g i) 0 i with
      | false =>
        rw [if_neg (by unfold ss_pb; rw [hb, Bool.and_false]; decide), Nat.zero_add] at hp
        exact br_t rfl (nm_r (nI_1 i) (ih (i + 1) a (by omega) hp))
      | true =>
        rw [if_pos (by unfold ss_pb; rw [hb, decide_eq_true z]; rfl), ← Nat.add_assoc] at hp
        exact br_f ss_10 (nm_r (nI_1 a) (nm_r (nI_1 i) (ih (i + 1) (a + 1) (by omega) hp)))
theorem ys_below {x : Int32} (hm : m ≤ 48) (hc : c < 3) (hg : ∀ j, j < m → si (3 * j + c) = g j) (hp : post (nI (ss_ct (ss_pb g x) 0 m))) : wpY_below post (yn, yc, yr, nI m, R, F, T, N, o, s, cc, cr, ci, cg, cn, yk, yl, ym, sr, si, ke) x (nI c) :=
  ⟨m + 1, ys_below_loop hm hc hg m 0 0 (by omega) (by rw [Nat.zero_add]; exact hp)⟩
theorem ys_before {i k : Nat} (hm : m ≤ 48) (hc : c < 3) (hg : ∀ j, j < m → si (3 * j + c) = g j) (hr : ∀ j, j < m → sr j = p j) (hi : i < m) (hk : k < m) (hp : post (ss_b (ss_be g p k i))) : wpY_before post (yn, yc, yr, yf, R, F, T, N, o, s, cc, cr, ci, cg, cn, yk, yl, ym, sr, si, ke) (nI i) (nI k) (nI c) := by
  have hvi : vp_in (nI i) 64 := vp_in_nI (by omega) (by decide)
  have hvk : vp_in (nI k) 64 := vp_in_nI (by omega) (by decide)
  unfold wpY_before; dsimp only
  rw [ss_3i, ss_3i, nI_clamp (n := 3 * i + c) (by omega), nI_clamp (n := 3 * k + c) (by omega), hg i hi, hg k hk, nI_clamp (n := i) (by omega), nI_clamp (n := k) (by omega), hr i hi, hr k hk]
  refine ⟨vp_in_nI (by omega) (by decide), nm_e ⟨vp_in_nI (by omega) (by decide), nm_e (br_c (fun z => ?_) (fun z => br_c (fun z2 => ⟨hvi, hvk, br_c (fun z3 => ?_) (fun z3 => ?_)⟩) (fun z2 => ?_)))⟩⟩
  · rw [show ss_be g p k i = true from decide_eq_true (Or.inl z)] at hp; exact hp
  · rw [show ss_be g p k i = false from decide_eq_false (fun q => q.elim z (fun q => q.2 z3))] at hp; exact hp
  · rw [show ss_be g p k i = true from decide_eq_true (Or.inr ⟨z2, z3⟩)] at hp; exact hp
  · rw [show ss_be g p k i = false from decide_eq_false (fun q => q.elim z (fun q => z2 q.1))] at hp; exact hp
theorem ys_rank_loop {k : Nat} (hm : m ≤ 48) (hc : c < 3) (hg : ∀ j, j < m → si (3 * j + c) = g j) (hr : ∀ j, j < m → sr j = p j) (hk : k < m) : ∀ d i a, i + d = m → post (nI (a + ss_ct (ss_be g p k) i d)) → wY_rankOf_5 post (nI k) (nI c) yn yc yr (nI m) R F T N o s cc cr ci cg cn yk yl ym sr si ke (d + 1) (nI a) (nI i) := by
  intro d
  induction d with
  | zero => intro i a hi hp; exact br_t (nI_le (by omega) (by omega)) hp
  | succ d ih =>
    intro i a hi hp
    refine br_f (nI_ge (by omega) (by omega)) (ys_before hm hc hg hr (by omega) hk ?_)
    rw [ss_ct] at hp
    cases hb : ss_be g p k i with
    | false =>
      rw [if_neg (by rw [hb]; decide), Nat.zero_add] at hp
      exact br_t rfl (nm_r (nI_1 i) (ih (i + 1) a (by omega) hp))
    | true =>
      rw [if_pos hb, ← Nat.add_assoc] at hp
      exact br_f ss_10 (nm_r (nI_1 a) (nm_r (nI_1 i) (ih (i + 1) (a + 1) (by omega) hp)))
theorem ys_rankOf {k : Nat} (hm : m ≤ 48) (hc : c < 3) (hg : ∀ j, j < m → si (3 * j + c) = g j) (hr : ∀ j, j < m → sr j = p j) (hk : k < m) (hp : post (nI (ss_ct (ss_be g p k) 0 m))) : wpY_rankOf post (yn, yc, yr, nI m, R, F, T, N, o, s, cc, cr, ci, cg, cn, yk, yl, ym, sr, si, ke) (nI k) (nI c) :=
  ⟨m + 1, ys_rank_loop hm hc hg hr hk m 0 0 (by omega) (by rw [Nat.zero_add]; exact hp)⟩
theorem ys_orderl {k : Int32} (hm : m ≤ 48) (hc : c < 3) (hg : ∀ j, j < m → si (3 * j + c) = g j) (hr : ∀ j, j < m → sr j = p j) : ∀ d i, i + d = m → ps (ss_od p (fun j => nI (ss_ct (ss_be g p j) 0 m)) k i d) (yn, yc, yr, nI m, R, F, T, N, o, s, cc, cr, ci, cg, cn, yk, yl, ym, sr, si, ke) → wY_order_22 ps (nI c) k yn yc yr (nI m) R F T N o s cc cr ci cg cn yk yl ym sr si ke (d + 1) (nI i) := by
  intro d
  induction d with
  | zero => intro i hi hp; exact br_t (nI_le (by omega) (by omega)) hp
  | succ d ih =>
    intro i hi hp
    refine br_f (nI_ge (by omega) (by omega)) (ys_rankOf hm hc hg hr (by omega) ?_)
    rw [nI_clamp (n := i) (by omega), hr i (by omega)]
    rw [ss_od] at hp
    refine br_c (fun z => ⟨vp_in_nI (by omega) (by decide), ?_⟩) (fun z => ?_)
    · rw [if_pos z] at hp; exact hp
    · rw [if_neg z] at hp; exact nm_r (nI_1 i) (ih (i + 1) (by omega) hp)
theorem ys_rankl {row : Int32} (hm : m ≤ 48) (hc : c < 3) (hg : ∀ j, j < m → si (3 * j + c) = g j) (hr : ∀ j, j < m → sr j = p j) : ∀ d i, i + d = m → ps (ss_od (fun j => nI (ss_ct (ss_be g p j) 0 m)) p row i d) (yn, yc, yr, nI m, R, F, T, N, o, s, cc, cr, ci, cg, cn, yk, yl, ym, sr, si, ke) → wY_rank_22 ps (nI c) row yn yc yr (nI m) R F T N o s cc cr ci cg cn yk yl ym sr si ke (d + 1) (nI i) := by
  intro d
  induction d with
  | zero => intro i hi hp; exact br_t (nI_le (by omega) (by omega)) hp
  | succ d ih =>
    intro i hi hp
    refine br_f (nI_ge (by omega) (by omega)) ⟨vp_in_nI (by omega) (by decide), ?_⟩
    rw [nI_clamp (n := i) (by omega), hr i (by omega)]
    rw [ss_od] at hp
    refine br_c (fun z => ?_) (fun z => ?_)
    · rw [if_pos z] at hp; exact ys_rankOf hm hc hg hr (by omega) hp
    · rw [if_neg z] at hp; exact nm_r (nI_1 i) (ih (i + 1) (by omega) hp)
theorem ys_total_loop {q : Int32} (hm : m ≤ 48) (hc : c < 3) (hg : ∀ j, j < m → si (3 * j + c) = g j) : ∀ d i a b e, i + d = m → ((q = 0 → p6 (nI m).toInt64) ∧ (¬ q = 0 → ((q = 1 → p6 (ss_sum g i d a)) ∧ (¬ q = 1 → ((q = 2 → p6 (ss_min g i d b).toInt64) ∧ (¬ q = 2 → p6 (ss_max g i d e).toInt64)))))) → wY_total_21 p6 (nI c) q yn yc yr (nI m) R F T N o s cc cr ci cg cn yk yl ym sr si ke (d + 1) a b e (nI i) := by
  intro d
  induction d with
  | zero => intro i a b e hi hp; exact br_t (nI_le (by omega) (by omega)) hp
  | succ d ih =>
    intro i a b e hi hp
    refine br_f (nI_ge (by omega) (by omega)) ?_
    rw [ss_3i, nI_clamp (n := 3 * i + c) (by omega), hg i (by omega)]
    rw [ss_sum, ss_min, ss_max] at hp
    refine ⟨vp_in_nI (by omega) (by decide), nm_e (nm_e (br_c (fun z => ?_) (fun z => ?_)))⟩
    · rw [if_pos z] at hp
      refine br_c (fun z2 => ?_) (fun z2 => ?_)
      · rw [if_pos z2] at hp; exact nm_r (nI_1 i) (ih (i + 1) _ _ _ (by omega) hp)
      · rw [if_neg z2] at hp; exact nm_r (nI_1 i) (ih (i + 1) _ _ _ (by omega) hp)
    · rw [if_neg z] at hp
      refine br_c (fun z2 => ?_) (fun z2 => ?_)
      · rw [if_pos z2] at hp; exact nm_r (nI_1 i) (ih (i + 1) _ _ _ (by omega) hp)
      · rw [if_neg z2] at hp; exact nm_r (nI_1 i) (ih (i + 1) _ _ _ (by omega) hp)
theorem ys_total {q : Int32} (hm : m ≤ 48) (h0 : 0 < m) (hc : c < 3) (hg : ∀ j, j < m → si (3 * j + c) = g j) (hp : ((q = 0 → p6 (nI m).toInt64) ∧ (¬ q = 0 → ((q = 1 → p6 (ss_sum g 0 m 0)) ∧ (¬ q = 1 → ((q = 2 → p6 (ss_mn g m).toInt64) ∧ (¬ q = 2 → p6 (ss_mx g m).toInt64))))))) : wpY_total p6 (yn, yc, yr, nI m, R, F, T, N, o, s, cc, cr, ci, cg, cn, yk, yl, ym, sr, si, ke) (nI c) q := by
  obtain ⟨d, rfl⟩ : ∃ d, m = d + 1 := ⟨m - 1, by omega⟩
  have h1 := hg 0 (by omega)
  rw [Nat.mul_zero, Nat.zero_add] at h1
  have hv : vp_in (nI c) 192 := vp_in_nI (by omega) (by decide)
  refine ⟨hv, nm_r (e' := g 0) (by rw [nI_clamp (by omega), h1]) ⟨hv, nm_r (e' := g 0) (by rw [nI_clamp (by omega), h1]) ⟨d + 2, ys_total_loop hm hc hg (d + 1) 0 0 (g 0) (g 0) (by omega) ?_⟩⟩⟩
  have e1 : ss_min g 0 (d + 1) (g 0) = ss_mn g (d + 1) := by rw [ss_min, ite_self]; rfl
  have e2 : ss_max g 0 (d + 1) (g 0) = ss_mx g (d + 1) := by rw [ss_max, ite_self]; rfl
  rw [e1, e2]
  exact hp
end
theorem ss_ask_who {k ck rc : Nat} {o s cc cr ci : Nat → Int32} {LX LY : List ss_V} {p : Int32} (h : ss_I k ck rc o s cc cr ci LX LY) (ha : p = -1 ∨ ss_op o p) : ∃ (t cnt : Nat) (tm : Int32), ss_who (nI ck) s cc p t cnt tm ∧ (∀ v, ss_hd v tm = true → ss_lv (nI ck) o s v = true) := by
  rcases ha with rfl | ⟨t, ht, rfl, hot⟩
  · exact ⟨0, 0, nI ck, Or.inl ⟨rfl, rfl, rfl, rfl⟩, ss_hd_live⟩
  · obtain ⟨hcc, h8, _⟩ := h.2.2.2.2.2.2.1 t ht hot
    exact ⟨t, ss_n cc t, s t, Or.inr ⟨rfl, ht, hcc, h8, rfl⟩, fun v hv => ss_lv_t ht hot hv⟩
theorem ss_Q_eq {c tm : Int32} {o s cr cn cg ws wk wl wm yk yl ym : Nat → Int32} {t cnt : Nat} {LX LY : List ss_V} (h : LX.filter (ss_lv c o s) = LY.filter (ss_lv c o s)) (hl : ∀ v, ss_hd v tm = true → ss_lv c o s v = true) (hw : ss_wr ws wk wl wm yk yl ym) :
    ss_Q cr cn cg t cnt tm (fun q => ss_pX ws wk wl wm q 0 2) LX = ss_Q cr cn cg t cnt tm (fun q => ss_pY yk yl ym q 0 2) LY := by
  have e : (fun q => ss_pX ws wk wl wm q 0 2) = (fun q => ss_pY yk yl ym q 0 2) := funext (fun q => ss_p_eq hw q)
  have e2 : LX.filter (ss_P cr t cnt tm) = LY.filter (ss_P cr t cnt tm) := by
    refine ss_flt' h (fun v hv => hl v ?_)
    unfold ss_P at hv
    rw [Bool.and_eq_true] at hv
    exact hv.1
  unfold ss_Q
  rw [e, e2]
theorem ss_wr_x {ws wk wl wm yk yl ym : Nat → Int32} (hw : ss_wr ws wk wl wm yk yl ym) : ∀ j, j < 2 → ∃ c, c < 3 ∧ wk j = nI c := fun j hj => (hw j hj).1
theorem ss_wr_y {ws wk wl wm yk yl ym : Nat → Int32} (hw : ss_wr ws wk wl wm yk yl ym) : ∀ j, j < 2 → yk j < 0 ∨ ∃ c, c < 3 ∧ yk j = nI c := by
  intro j hj
  obtain ⟨⟨c, hc, e⟩, h⟩ := hw j hj
  rcases h with h | h
  · exact Or.inl h.2
  · exact Or.inr ⟨c, hc, by rw [h.2.1, e]⟩
theorem ss_agree {fr fi sr si : Nat → Int32} {m m' : Nat} {Q : List ss_F} (h1 : ss_L (ss_fa fr fi) 0 m = Q) (h2 : ss_L (ss_fa sr si) 0 m' = Q) : m' = m ∧ (∀ j, j < m → sr j = fr j) ∧ (∀ c, c < 3 → ∀ j, j < m → si (3 * j + c) = fi (3 * j + c)) := by
  have e : m' = m := by
    have a := congrArg List.length h1
    have b := congrArg List.length h2
    rw [ss_Llen] at a b
    omega
  subst e
  have hj := ss_Linj m' 0 (h2.trans h1.symm)
  refine ⟨rfl, fun j hm => ?_, fun c hc j hm => ?_⟩
  · have := hj j (by omega) (by omega)
    exact congrArg (fun q : ss_F => q.1) this
  · have := hj j (by omega) (by omega)
    rw [← ss_gt_fa (fr := sr) (fi := si) (i := j) hc, this, ss_gt_fa hc]
theorem i_vc_order {k : Nat} {u : SX} {v : SY} (I : i_Rel k u v) (hk : k + 6 ≤ 3072) (v1 : Int32) (v2 : Int32) (v3 : Int32) : wpX_order (fun r u' => wpY_order (fun r' v' => r' = r ∧ i_Rel (k + 6) u' v') v v1 v2 v3) u v1 v2 v3 := by
  obtain ⟨ck, rc, nx, ny, xf, yf, R, F, T, N, VR, VF, VT, VN, o, s, cc, cr, ci, cg, cn, ws, wk, wl, wm, fr, fi, yk, yl, ym, sr, si, ke, rfl, rfl, h1, h2, h3, h4⟩ := I
  unfold wpX_order wpY_order; dsimp only
  by_cases ha : v1 = -1 ∨ ss_op o v1
  · refine xs_canAsk_t ha (br_f ss_10 ?_)
    obtain ⟨t, cnt, tm, hwho, hlive⟩ := ss_ask_who h3 ha
    by_cases hcol : ss_am v2 3
    · refine xs_isColumn_t hcol (br_f ss_10 (xs_findRows h1 rfl hwho (ss_wr_x h4) (fun m fr' fi' hm he => ?_)))
      dsimp only
      have hcol' := hcol
      obtain ⟨c, hc, rfl⟩ := hcol'
      refine ⟨m + 1, xs_order_loop hm hc (fun j _ => rfl) (fun j _ => rfl) m 0 (by omega) ?_⟩
      refine ys_look h2 rfl ha hwho (ss_wr_y h4) (fun m' sr' si' he' => ?_)
      dsimp only
      rw [← ss_Q_eq h3.2.2.1 hlive h4] at he'
      obtain ⟨rfl, hr, hg⟩ := ss_agree he he'
      exact br_f ss_10 (ys_among_t (n := 3) rfl (by decide) hcol (br_f ss_10 ⟨m' + 1, ys_orderl hm hc (hg c hc) hr m' 0 (by omega) ⟨rfl, ss_mk h1 h2 (ss_I_up h3) h4⟩⟩))
    · refine xs_isColumn_f hcol (br_t rfl (ys_look h2 rfl ha hwho (ss_wr_y h4) (fun m' sr' si' he' => ?_)))
      exact br_f ss_10 (ys_among_f (n := 3) rfl (by decide) hcol (br_t rfl ⟨rfl, ss_mk h1 h2 (ss_I_up h3) h4⟩))
  · exact xs_canAsk_f ha (br_t rfl (ys_look_f ha (br_t rfl ⟨rfl, ss_mk h1 h2 (ss_I_up h3) h4⟩)))
theorem i_vc_rank {k : Nat} {u : SX} {v : SY} (I : i_Rel k u v) (hk : k + 6 ≤ 3072) (v1 : Int32) (v2 : Int32) (v3 : Int32) : wpX_rank (fun r u' => wpY_rank (fun r' v' => r' = r ∧ i_Rel (k + 6) u' v') v v1 v2 v3) u v1 v2 v3 := by
  obtain ⟨ck, rc, nx, ny, xf, yf, R, F, T, N, VR, VF, VT, VN, o, s, cc, cr, ci, cg, cn, ws, wk, wl, wm, fr, fi, yk, yl, ym, sr, si, ke, rfl, rfl, h1, h2, h3, h4⟩ := I
  unfold wpX_rank wpY_rank; dsimp only
  by_cases ha : v1 = -1 ∨ ss_op o v1
  · refine xs_canAsk_t ha (br_f ss_10 ?_)
    obtain ⟨t, cnt, tm, hwho, hlive⟩ := ss_ask_who h3 ha
    by_cases hcol : ss_am v2 3
    · refine xs_isColumn_t hcol (br_f ss_10 (xs_findRows h1 rfl hwho (ss_wr_x h4) (fun m fr' fi' hm he => ?_)))
      dsimp only
      have hcol' := hcol
      obtain ⟨c, hc, rfl⟩ := hcol'
      refine ⟨m + 1, xs_rank_loop hm hc (fun j _ => rfl) (fun j _ => rfl) m 0 (by omega) ?_⟩
      refine ys_look h2 rfl ha hwho (ss_wr_y h4) (fun m' sr' si' he' => ?_)
      dsimp only
      rw [← ss_Q_eq h3.2.2.1 hlive h4] at he'
      obtain ⟨rfl, hr, hg⟩ := ss_agree he he'
      exact br_f ss_10 (ys_among_t (n := 3) rfl (by decide) hcol (br_f ss_10 ⟨m' + 1, ys_rankl hm hc (hg c hc) hr m' 0 (by omega) ⟨rfl, ss_mk h1 h2 (ss_I_up h3) h4⟩⟩))
    · refine xs_isColumn_f hcol (br_t rfl (ys_look h2 rfl ha hwho (ss_wr_y h4) (fun m' sr' si' he' => ?_)))
      exact br_f ss_10 (ys_among_f (n := 3) rfl (by decide) hcol (br_t rfl ⟨rfl, ss_mk h1 h2 (ss_I_up h3) h4⟩))
  · exact xs_canAsk_f ha (br_t rfl (ys_look_f ha (br_t rfl ⟨rfl, ss_mk h1 h2 (ss_I_up h3) h4⟩)))
theorem i_vc_ask {k : Nat} {u : SX} {v : SY} (I : i_Rel k u v) (hk : k + 6 ≤ 3072) (v1 : Int32) (v2 : Int32) (v3 : Int32) : wpX_ask (fun r u' => wpY_ask (fun r' v' => r' = r ∧ i_Rel (k + 6) u' v') v v1 v2 v3) u v1 v2 v3 := by
  obtain ⟨ck, rc, nx, ny, xf, yf, R, F, T, N, VR, VF, VT, VN, o, s, cc, cr, ci, cg, cn, ws, wk, wl, wm, fr, fi, yk, yl, ym, sr, si, ke, rfl, rfl, h1, h2, h3, h4⟩ := I
  unfold wpX_ask wpY_ask; dsimp only
  by_cases ha : v1 = -1 ∨ ss_op o v1
  · refine xs_canAsk_t ha (br_f ss_10 ?_)
    obtain ⟨t, cnt, tm, hwho, hlive⟩ := ss_ask_who h3 ha
    by_cases hcol : ss_am v3 3
    · refine xs_isColumn_t hcol (br_f ss_10 (xs_findRows h1 rfl hwho (ss_wr_x h4) (fun m fr' fi' hm he => ?_)))
      dsimp only
      have hcol' := hcol
      obtain ⟨c, hc, rfl⟩ := hcol'
      by_cases hwhat : ss_am v2 5
      · -- the reference's answer
        have hY : ∀ r : Int64, (m = 0 → r = 0) → (0 < m → v2 = 4 → r = (nI (ss_ct (ss_pd (fun j => fi' (3 * j + c))) 0 m)).toInt64) → (0 < m → ¬ v2 = 4 → ((v2 = 0 → r = (nI m).toInt64) ∧ (¬ v2 = 0 → ((v2 = 1 → r = ss_sum (fun j => fi' (3 * j + c)) 0 m 0) ∧ (¬ v2 = 1 → ((v2 = 2 → r = (ss_mn (fun j => fi' (3 * j + c)) m).toInt64) ∧ (¬ v2 = 2 → r = (ss_mx (fun j => fi' (3 * j + c)) m).toInt64))))))) → wpY_ask (fun r' v' => r' = r ∧ i_Rel (k + 6) (nI ck, nI rc, nI nx, nI m, R, F, T, N, o, s, cc, cr, ci, cg, cn, ws, wk, wl, wm, fr', fi') v') (nI ny, nI ck, nI rc, yf, VR, VF, VT, VN, o, s, cc, cr, ci, cg, cn, yk, yl, ym, sr, si, ke) v1 v2 (nI c) := by
          intro r q0 q4 q3
          unfold wpY_ask; dsimp only
          refine ys_look h2 rfl ha hwho (ss_wr_y h4) (fun m' sr' si' he' => ?_)
          dsimp only
          rw [← ss_Q_eq h3.2.2.1 hlive h4] at he'
          obtain ⟨rfl, hr, hg⟩ := ss_agree he he'
          have hR : i_Rel (k + 6) (nI ck, nI rc, nI nx, nI m', R, F, T, N, o, s, cc, cr, ci, cg, cn, ws, wk, wl, wm, fr', fi') (nI ny, nI ck, nI rc, nI m', VR, VF, VT, VN, o, s, cc, cr, ci, cg, cn, yk, yl, ym, sr', si', ke) := ss_mk h1 h2 (ss_I_up h3) h4
          refine br_f ss_10 (ys_among_t (n := 3) rfl (by decide) hcol (br_f ss_10 (ys_among_t (n := 5) rfl (by decide) hwhat (br_f ss_10 ?_))))
          by_cases hm0 : m' = 0
          · exact br_t (by rw [hm0]; rfl) ⟨(q0 hm0).symm, hR⟩
          · refine br_f (nI_ne0 (by omega) (by omega)) (br_c (fun z => ys_different hm hc (hg c hc) ⟨(q4 (by omega) z).symm, hR⟩) (fun z => ys_total hm (by omega) hc (hg c hc) ?_))
            obtain ⟨a1, a2⟩ := q3 (by omega) z
            exact ⟨fun w => ⟨(a1 w).symm, hR⟩, fun w => ⟨fun w1 => ⟨((a2 w).1 w1).symm, hR⟩, fun w1 => ⟨fun w2 => ⟨(((a2 w).2 w1).1 w2).symm, hR⟩, fun w2 => ⟨(((a2 w).2 w1).2 w2).symm, hR⟩⟩⟩⟩
        have hcase : v2 = 0 ∨ v2 = 1 ∨ v2 = 2 ∨ v2 = 3 ∨ v2 = 4 := by
          obtain ⟨j, hj, rfl⟩ := hwhat
          match j, hj with
          | 0, _ => exact Or.inl rfl
          | 1, _ => exact Or.inr (Or.inl rfl)
          | 2, _ => exact Or.inr (Or.inr (Or.inl rfl))
          | 3, _ => exact Or.inr (Or.inr (Or.inr (Or.inl rfl)))
          | 4, _ => exact Or.inr (Or.inr (Or.inr (Or.inr rfl)))
        rcases hcase with rfl | rfl | rfl | rfl | rfl
        · refine br_f (by decide) (br_f (by decide) (br_t rfl (hY _ (fun e => by rw [e]; rfl) (fun _ z => absurd z (by decide)) (fun _ _ => br_t rfl rfl))))
        · refine br_f (by decide) (br_f (by decide) (br_f (by decide) (br_t rfl (xs_sumOf hm hc (fun j _ => rfl) (hY _ (fun e => by rw [e]; rfl) (fun _ z => absurd z (by decide)) (fun _ _ => br_f (by decide) (br_t rfl rfl)))))))
        · refine br_f (by decide) (br_f (by decide) (br_f (by decide) (br_f (by decide) (br_t rfl (xs_leastOf hm hc (fun j _ => rfl) (hY _ (fun e => by rw [e]; rfl) (fun _ z => absurd z (by decide)) (fun _ _ => br_f (by decide) (br_f (by decide) (br_t rfl rfl)))))))))
        · refine br_f (by decide) (br_f (by decide) (br_f (by decide) (br_f (by decide) (br_f (by decide) (br_t rfl (xs_greatestOf hm hc (fun j _ => rfl) (hY _ (fun e => by rw [e]; rfl) (fun _ z => absurd z (by decide)) (fun _ _ => br_f (by decide) (br_f (by decide) (br_f (by decide) rfl))))))))))
        · refine br_f (by decide) (br_f (by decide) (br_f (by decide) (br_f (by decide) (br_f (by decide) (br_f (by decide) (br_t rfl (xs_countDifferent hm hc (fun j _ => rfl) (hY _ (fun e => by rw [e]; rfl) (fun _ _ => rfl) (fun _ z => absurd rfl z)))))))))
      · have hY : wpY_ask (fun r' v' => r' = 0 ∧ i_Rel (k + 6) (nI ck, nI rc, nI nx, nI m, R, F, T, N, o, s, cc, cr, ci, cg, cn, ws, wk, wl, wm, fr', fi') v') (nI ny, nI ck, nI rc, yf, VR, VF, VT, VN, o, s, cc, cr, ci, cg, cn, yk, yl, ym, sr, si, ke) v1 v2 (nI c) := by
          unfold wpY_ask; dsimp only
          refine ys_look h2 rfl ha hwho (ss_wr_y h4) (fun m' sr' si' he' => ?_)
          exact br_f ss_10 (ys_among_t (n := 3) rfl (by decide) hcol (br_f ss_10 (ys_among_f (n := 5) rfl (by decide) hwhat (br_t rfl ⟨rfl, ss_mk h1 h2 (ss_I_up h3) h4⟩))))
        exact br_c (fun _ => hY) (fun _ => br_c (fun _ => hY) (fun _ => br_f (fun z => hwhat ⟨0, by decide, z⟩) (br_f (fun z => hwhat ⟨1, by decide, z⟩) (br_f (fun z => hwhat ⟨2, by decide, z⟩) (br_f (fun z => hwhat ⟨3, by decide, z⟩) (br_f (fun z => hwhat ⟨4, by decide, z⟩) trivial))))))
    · refine xs_isColumn_f hcol (br_t rfl (ys_look h2 rfl ha hwho (ss_wr_y h4) (fun m' sr' si' he' => ?_)))
      exact br_f ss_10 (ys_among_f (n := 3) rfl (by decide) hcol (br_t rfl ⟨rfl, ss_mk h1 h2 (ss_I_up h3) h4⟩))
  · exact xs_canAsk_f ha (br_t rfl (ys_look_f ha (br_t rfl ⟨rfl, ss_mk h1 h2 (ss_I_up h3) h4⟩)))
