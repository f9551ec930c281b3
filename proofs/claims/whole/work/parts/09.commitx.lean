/-- begun or ended after this time -/
def ss_af (st : Int32) (v : ss_V) : Bool := decide (st.toInt < v.2.1.toInt) || decide (v.2.2.1.toInt ≠ 2147483647 ∧ st.toInt < v.2.2.1.toInt)
def ss_hc (ci cg : Nat → Int32) : Nat → Nat → Bool
  | _, 0 => false
  | i, d + 1 => decide (ci i = 0 ∨ cg i = 0) || ss_hc ci cg (i + 1) d
def ss_ng (cg : Nat → Int32) : Nat → Nat → Nat
  | _, 0 => 0
  | i, d + 1 => (if cg i = 0 then 1 else 0) + ss_ng cg (i + 1) d
/-- goes on behind t's commit -/
def ss_bh (o s cr : Nat → Int32) (t cnt : Nat) (v : ss_V) : Bool := (decide (v.2.2.1 = 2147483647) && !ss_in cr v.1 (8 * t) cnt) || ss_sn o s (nI t) v 0 4
def ss_en (c : Int32) (cr : Nat → Int32) (t cnt : Nat) (v : ss_V) : ss_V := if v.2.2.1 = 2147483647 ∧ ss_in cr v.1 (8 * t) cnt = true then (v.1, v.2.1, c, v.2.2.2) else v
def ss_nv (c : Int32) (cr cn : Nat → Int32) (i : Nat) : ss_V := (cr i, c, 2147483647, cn (3 * i), cn (3 * i + 1), cn (3 * i + 2))
def ss_nw (c : Int32) (cr cn cg : Nat → Int32) : Nat → Nat → List ss_V
  | _, 0 => []
  | i, d + 1 => if cg i = 0 then ss_nv c cr cn i :: ss_nw c cr cn cg (i + 1) d else ss_nw c cr cn cg (i + 1) d
theorem ss_nw_len (c : Int32) (cr cn cg : Nat → Int32) : ∀ d i, (ss_nw c cr cn cg i d).length = ss_ng cg i d := by
  intro d
  induction d with
  | zero => intro i; rfl
  | succ d ih =>
    intro i
    rw [ss_nw, ss_ng]
    by_cases z : cg i = 0
    · rw [if_pos z, if_pos z, List.length_cons, ih]; omega
    · rw [if_neg z, if_neg z, ih]; omega
theorem ss_ng_le (cg : Nat → Int32) : ∀ d i, ss_ng cg i d ≤ d := by
  intro d
  induction d with
  | zero => intro i; exact Nat.le_refl 0
  | succ d ih =>
    intro i
    rw [ss_ng]
    have := ih (i + 1)
    split <;> omega
section
variable {xc xr xn xf : Int32} {R F T N o s cc cr ci cg cn ws wk wl wm fr fi : Nat → Int32}
variable {post : Int32 → Prop} {t cnt n : Nat}
theorem xs_ot_73 {J : Int32 → Prop} {i : Nat} (ht : t < 4) (hc : cc t = nI cnt) (h8 : cnt ≤ 8) (hi : i < 40) (h1 : ss_in cr (R i) (8 * t) cnt = true → post 1) (h0 : ss_in cr (R i) (8 * t) cnt = false → J (nI (i + 1))) : wX_isOvertaken_73 post J (nI t) (nI i) xc xr xn xf R F T N o s cc cr ci cg cn ws wk wl wm fr fi := by
  refine ⟨vp_in_nI hi (by decide), ?_⟩
  rw [nI_clamp (n := i) (by omega)]
  refine xs_findChange ht hc h8 (br_c (fun z => nm_r (nI_1 i) (h0 ?_)) (fun z => h1 ?_))
  · exact (ss_fc_neg (by omega)).mp z
  · rw [ss_fc_neg (by omega)] at z
    exact Bool.of_not_eq_false z
theorem xs_ot_62 {J : Int32 → Prop} {i : Nat} {b1 b2 : Bool} (h1 : (b1 || b2) = true → wX_isOvertaken_73 post J (nI t) (nI i) xc xr xn xf R F T N o s cc cr ci cg cn ws wk wl wm fr fi) (h0 : (b1 || b2) = false → J (nI (i + 1))) : wX_isOvertaken_62 post J (nI t) (nI i) (ss_b b1) (ss_b b2) xc xr xn xf R F T N o s cc cr ci cg cn ws wk wl wm fr fi := by
  cases b1 with
  | true => exact br_f ss_10 (h1 rfl)
  | false =>
    cases b2 with
    | true => exact br_t rfl (br_f ss_10 (h1 rfl))
    | false => exact br_t rfl (br_t rfl (nm_r (nI_1 i) (h0 rfl)))
theorem xs_ot_30 {J : Int32 → Prop} {i : Nat} {b1 : Bool} (ht : t < 4) (hi : i < 40) (h1 : (b1 || decide ((T i).toInt ≠ 2147483647 ∧ (s t).toInt < (T i).toInt)) = true → wX_isOvertaken_73 post J (nI t) (nI i) xc xr xn xf R F T N o s cc cr ci cg cn ws wk wl wm fr fi) (h0 : (b1 || decide ((T i).toInt ≠ 2147483647 ∧ (s t).toInt < (T i).toInt)) = false → J (nI (i + 1))) : wX_isOvertaken_30 post J (nI t) (nI i) (ss_b b1) xc xr xn xf R F T N o s cc cr ci cg cn ws wk wl wm fr fi := by
  have hv : vp_in (nI i) 40 := vp_in_nI hi (by decide)
  have hvt : vp_in (nI t) 4 := vp_in_nI ht (by decide)
  have hci : (nI i).toNatClampNeg = i := nI_clamp (by omega)
  have hct : (nI t).toNatClampNeg = t := nI_clamp (by omega)
  refine ⟨hv, ?_⟩
  rw [hci, hct]
  refine br_c (fun z => ?_) (fun z => ⟨hv, hvt, br_c (fun z2 => ?_) (fun z2 => ?_)⟩)
  · rw [ss_eq, ss_ev] at z
    rw [decide_eq_false (fun q => q.1 z)] at h1 h0
    exact xs_ot_62 (b2 := false) h1 h0
  · rw [ss_le] at z2
    rw [decide_eq_false (fun q => by have := q.2; omega)] at h1 h0
    exact xs_ot_62 (b2 := false) h1 h0
  · rw [ss_eq, ss_ev] at z
    rw [ss_le] at z2
    rw [decide_eq_true ⟨z, by omega⟩] at h1 h0
    exact xs_ot_62 (b2 := true) h1 h0
theorem xs_ot_loop (ht : t < 4) (hc : cc t = nI cnt) (h8 : cnt ≤ 8) (hn : n ≤ 40) (hx : xn = nI n) : ∀ d i, i + d = n → post (ss_b ((ss_L (ss_at R F T N) i d).any (fun v => ss_af (s t) v && ss_in cr v.1 (8 * t) cnt))) → wX_isOvertaken_2 post (nI t) xc xr xn xf R F T N o s cc cr ci cg cn ws wk wl wm fr fi (d + 1) (nI i) := by
  intro d
  induction d with
  | zero => intro i hi hp; exact br_t (by rw [hx]; exact nI_le (by omega) (by omega)) hp
  | succ d ih =>
    intro i hi hp
    have hv : vp_in (nI i) 40 := vp_in_nI (by omega) (by decide)
    have hvt : vp_in (nI t) 4 := vp_in_nI ht (by decide)
    have hci : (nI i).toNatClampNeg = i := nI_clamp (by omega)
    have hct : (nI t).toNatClampNeg = t := nI_clamp (by omega)
    have hn' := ih (i + 1) (by omega)
    rw [ss_L, List.any_cons] at hp
    have g1 : ss_af (s t) (ss_at R F T N i) = true → wX_isOvertaken_73 post (wX_isOvertaken_2 post (nI t) xc xr xn xf R F T N o s cc cr ci cg cn ws wk wl wm fr fi (d + 1)) (nI t) (nI i) xc xr xn xf R F T N o s cc cr ci cg cn ws wk wl wm fr fi := by
      intro ha
      refine xs_ot_73 ht hc h8 (by omega) (fun h => ?_) (fun h => hn' ?_)
      · rw [ha, Bool.true_and, show ss_in cr (ss_at R F T N i).1 (8 * t) cnt = true from h, Bool.true_or] at hp; exact hp
      · rw [ha, Bool.true_and, show ss_in cr (ss_at R F T N i).1 (8 * t) cnt = false from h, Bool.false_or] at hp; exact hp
    have g0 : ss_af (s t) (ss_at R F T N i) = false → wX_isOvertaken_2 post (nI t) xc xr xn xf R F T N o s cc cr ci cg cn ws wk wl wm fr fi (d + 1) (nI (i + 1)) := by
      intro ha
      refine hn' ?_
      rw [ha, Bool.false_and, Bool.false_or] at hp; exact hp
    refine br_f (by rw [hx]; exact nI_ge (by omega) (by omega)) ⟨hv, hvt, br_c (fun z => ?_) (fun z => ?_)⟩
    · rw [hci, hct, ss_le] at z
      have e : ss_af (s t) (ss_at R F T N i) = (false || decide ((T i).toInt ≠ 2147483647 ∧ (s t).toInt < (T i).toInt)) := by
        unfold ss_af
        rw [decide_eq_false (fun q : (s t).toInt < (ss_at R F T N i).2.1.toInt => by have : (s t).toInt < (F i).toInt := q; omega)]
        rfl
      rw [e] at g1 g0
      exact xs_ot_30 (b1 := false) ht (by omega) g1 g0
    · rw [hci, hct, ss_le] at z
      have e : ss_af (s t) (ss_at R F T N i) = (true || decide ((T i).toInt ≠ 2147483647 ∧ (s t).toInt < (T i).toInt)) := by
        unfold ss_af
        have h9 : (s t).toInt < (ss_at R F T N i).2.1.toInt := Int.lt_of_not_ge z
        rw [decide_eq_true h9]
        rfl
      rw [e] at g1 g0
      exact xs_ot_30 (b1 := true) ht (by omega) g1 g0
theorem xs_isOvertaken (ht : t < 4) (hc : cc t = nI cnt) (h8 : cnt ≤ 8) (hn : n ≤ 40) (hx : xn = nI n) (hp : post (ss_b ((ss_L (ss_at R F T N) 0 n).any (fun v => ss_af (s t) v && ss_in cr v.1 (8 * t) cnt)))) : wpX_isOvertaken post (xc, xr, xn, xf, R, F, T, N, o, s, cc, cr, ci, cg, cn, ws, wk, wl, wm, fr, fi) (nI t) :=
  ⟨n + 1, xs_ot_loop ht hc h8 hn hx n 0 (by omega) hp⟩
theorem xs_hc_loop (ht : t < 4) (hc : cc t = nI cnt) (h8 : cnt ≤ 8) : ∀ d i, i + d = cnt → post (ss_b (ss_hc ci cg (8 * t + i) d)) → wX_hasChanges_2 post (nI t) xc xr xn xf R F T N o s cc cr ci cg cn ws wk wl wm fr fi (d + 1) (nI i) := by
  intro d
  induction d with
  | zero =>
    intro i hi hp
    refine ⟨vp_in_nI ht (by decide), br_t ?_ hp⟩
    rw [nI_clamp (by omega), hc]; exact nI_le (by omega) (by omega)
  | succ d ih =>
    intro i hi hp
    have hv : vp_in (nI (8 * t + i)) 32 := vp_in_nI (by omega) (by decide)
    refine ⟨vp_in_nI ht (by decide), br_f ?_ (nm_r (ss_i8 t i) ⟨hv, ?_⟩)⟩
    · rw [nI_clamp (by omega), hc]; exact nI_ge (by omega) (by omega)
    · rw [nI_clamp (n := 8 * t + i) (by omega)]
      rw [ss_hc] at hp
      refine br_c (fun z => ?_) (fun z => ⟨hv, br_c (fun z2 => ?_) (fun z2 => ?_)⟩)
      · rw [decide_eq_true (Or.inl z), Bool.true_or] at hp; exact hp
      · rw [decide_eq_true (Or.inr z2), Bool.true_or] at hp; exact hp
      · rw [decide_eq_false (fun q => q.elim z z2), Bool.false_or] at hp
        exact nm_r (nI_1 i) (ih (i + 1) (by omega) hp)
theorem xs_hasChanges (ht : t < 4) (hc : cc t = nI cnt) (h8 : cnt ≤ 8) (hp : post (ss_b (ss_hc ci cg (8 * t) cnt))) : wpX_hasChanges post (xc, xr, xn, xf, R, F, T, N, o, s, cc, cr, ci, cg, cn, ws, wk, wl, wm, fr, fi) (nI t) :=
  ⟨cnt + 1, xs_hc_loop ht hc h8 cnt 0 (by omega) hp⟩
theorem xs_clb_69 (ht : t < 4) (hc : cc t = nI cnt) (h8 : cnt ≤ 8) : ∀ d i c, i + d = cnt → post (nI (c + ss_ng cg (8 * t + i) d)) → wX_countLiveBehind_69 post (nI t) xc xr xn xf R F T N o s cc cr ci cg cn ws wk wl wm fr fi (d + 1) (nI c) (nI i) := by
  intro d
  induction d with
  | zero =>
    intro i c hi hp
    refine ⟨vp_in_nI ht (by decide), br_t ?_ hp⟩
    rw [nI_clamp (by omega), hc]; exact nI_le (by omega) (by omega)
  | succ d ih =>
    intro i c hi hp
    refine ⟨vp_in_nI ht (by decide), br_f ?_ ?_⟩
    · rw [nI_clamp (by omega), hc]; exact nI_ge (by omega) (by omega)
    · rw [ss_i8, nI_clamp (n := 8 * t + i) (by omega)]
      rw [ss_ng] at hp
      refine ⟨vp_in_nI (by omega) (by decide), br_c (fun z => ?_) (fun z => ?_)⟩
      · rw [if_pos z, ← Nat.add_assoc] at hp
        exact nm_r (nI_1 c) (nm_r (nI_1 i) (ih (i + 1) (c + 1) (by omega) hp))
      · rw [if_neg z, Nat.zero_add] at hp
        exact nm_r (nI_1 i) (ih (i + 1) c (by omega) hp)
theorem xs_clb_42 {J : Int32 → Int32 → Prop} {i c : Nat} {b : Bool} (hi : i < 40) (h1 : (b || ss_sn o s (nI t) (ss_at R F T N i) 0 4) = true → J (nI (c + 1)) (nI (i + 1))) (h0 : (b || ss_sn o s (nI t) (ss_at R F T N i) 0 4) = false → J (nI c) (nI (i + 1))) : wX_countLiveBehind_42 post J (nI t) (nI c) (nI i) (ss_b b) xc xr xn xf R F T N o s cc cr ci cg cn ws wk wl wm fr fi := by
  cases b with
  | true => exact br_f ss_10 (nm_r (nI_1 c) (nm_r (nI_1 i) (h1 rfl)))
  | false =>
    refine br_t rfl (xs_isSeenByOpen hi ?_)
    cases hb : ss_sn o s (nI t) (ss_at R F T N i) 0 4 with
    | true => exact br_f ss_10 (nm_r (nI_1 c) (nm_r (nI_1 i) (h1 (by rw [hb]; rfl))))
    | false => exact br_t rfl (nm_r (nI_1 i) (h0 (by rw [hb]; rfl)))
theorem xs_clb_loop (ht : t < 4) (hc : cc t = nI cnt) (h8 : cnt ≤ 8) (hn : n ≤ 40) (hx : xn = nI n) : ∀ d i c, i + d = n → post (nI (c + (ss_L (ss_at R F T N) i d).countP (ss_bh o s cr t cnt) + ss_ng cg (8 * t) cnt)) → wX_countLiveBehind_4 post (nI t) xc xr xn xf R F T N o s cc cr ci cg cn ws wk wl wm fr fi (d + 1) (nI c) (nI i) := by
  intro d
  induction d with
  | zero =>
    intro i c hi hp
    exact br_t (by rw [hx]; exact nI_le (by omega) (by omega)) ⟨cnt + 1, xs_clb_69 ht hc h8 cnt 0 c (by omega) hp⟩
  | succ d ih =>
    intro i c hi hp
    have hv : vp_in (nI i) 40 := vp_in_nI (by omega) (by decide)
    rw [ss_L, List.countP_cons] at hp
    have g1 : ss_bh o s cr t cnt (ss_at R F T N i) = true → wX_countLiveBehind_4 post (nI t) xc xr xn xf R F T N o s cc cr ci cg cn ws wk wl wm fr fi (d + 1) (nI (c + 1)) (nI (i + 1)) := by
      intro h
      refine ih (i + 1) (c + 1) (by omega) ?_
      rw [if_pos h] at hp
      rw [show c + 1 + (ss_L (ss_at R F T N) (i + 1) d).countP (ss_bh o s cr t cnt) = c + ((ss_L (ss_at R F T N) (i + 1) d).countP (ss_bh o s cr t cnt) + 1) from by omega]
      exact hp
    have g0 : ss_bh o s cr t cnt (ss_at R F T N i) = false → wX_countLiveBehind_4 post (nI t) xc xr xn xf R F T N o s cc cr ci cg cn ws wk wl wm fr fi (d + 1) (nI c) (nI (i + 1)) := by
      intro h
      refine ih (i + 1) c (by omega) ?_
      rw [if_neg (by rw [h]; decide), Nat.add_zero] at hp
      exact hp
    refine br_f (by rw [hx]; exact nI_ge (by omega) (by omega)) ⟨hv, ?_⟩
    rw [nI_clamp (n := i) (by omega)]
    refine br_c (fun z => ⟨hv, xs_findChange ht hc h8 (br_c (fun z2 => ?_) (fun z2 => ?_))⟩) (fun z => ?_)
    · rw [ss_fc_pos (by omega)] at z2
      have e : ss_bh o s cr t cnt (ss_at R F T N i) = (false || ss_sn o s (nI t) (ss_at R F T N i) 0 4) := by
        unfold ss_bh
        rw [show ss_in cr (ss_at R F T N i).1 (8 * t) cnt = true from z2, Bool.not_true, Bool.and_false]
      rw [e] at g1 g0
      exact xs_clb_42 (b := false) (by omega) g1 g0
    · rw [ss_fc_pos (by omega)] at z2
      have e : ss_bh o s cr t cnt (ss_at R F T N i) = (true || ss_sn o s (nI t) (ss_at R F T N i) 0 4) := by
        unfold ss_bh
        rw [show ss_in cr (ss_at R F T N i).1 (8 * t) cnt = false from Bool.of_not_eq_true z2, Bool.not_false, Bool.and_true, decide_eq_true (show (ss_at R F T N i).2.2.1 = 2147483647 from z)]
      rw [e] at g1 g0
      exact xs_clb_42 (b := true) (by omega) g1 g0
    · have e : ss_bh o s cr t cnt (ss_at R F T N i) = (false || ss_sn o s (nI t) (ss_at R F T N i) 0 4) := by
        unfold ss_bh
        rw [decide_eq_false (show ¬ (ss_at R F T N i).2.2.1 = 2147483647 from z), Bool.false_and]
      rw [e] at g1 g0
      exact xs_clb_42 (b := false) (by omega) g1 g0
theorem xs_countLiveBehind (ht : t < 4) (hc : cc t = nI cnt) (h8 : cnt ≤ 8) (hn : n ≤ 40) (hx : xn = nI n) (hp : post (nI ((ss_L (ss_at R F T N) 0 n).countP (ss_bh o s cr t cnt) + ss_ng cg (8 * t) cnt))) : wpX_countLiveBehind post (xc, xr, xn, xf, R, F, T, N, o, s, cc, cr, ci, cg, cn, ws, wk, wl, wm, fr, fi) (nI t) :=
  ⟨n + 1, xs_clb_loop ht hc h8 hn hx n 0 0 (by omega) (by rw [Nat.zero_add]; exact hp)⟩
variable {ps : SX → Prop}
theorem xs_end_loop (ht : t < 4) (hc : cc t = nI cnt) (h8 : cnt ≤ 8) (hn : n ≤ 40) (hx : xn = nI n) : ∀ (d i : Nat) (T : Nat → Int32), i + d = n → (∀ T' : Nat → Int32, (∀ j, j < i → T' j = T j) → (∀ j, i ≤ j → j < n → ss_at R F T' N j = ss_en xc cr t cnt (ss_at R F T N j)) → ps (xc, xr, xn, xf, R, F, T', N, o, s, cc, cr, ci, cg, cn, ws, wk, wl, wm, fr, fi)) → wX_endChangedVersions_2 ps (nI t) xc xr xn xf (d + 1) (nI i) R F T N o s cc cr ci cg cn ws wk wl wm fr fi := by
  intro d
  induction d with
  | zero =>
    intro i T hi hp
    exact br_t (by rw [hx]; exact nI_le (by omega) (by omega)) (hp T (fun _ _ => rfl) (fun j h1 h2 => by omega))
  | succ d ih =>
    intro i T hi hp
    have hv : vp_in (nI i) 40 := vp_in_nI (by omega) (by decide)
    have g0 : ss_en xc cr t cnt (ss_at R F T N i) = ss_at R F T N i → wX_endChangedVersions_2 ps (nI t) xc xr xn xf (d + 1) (nI (i + 1)) R F T N o s cc cr ci cg cn ws wk wl wm fr fi := by
      intro h
      refine ih (i + 1) T (by omega) (fun T' h1 h2 => hp T' (fun j hj => h1 j (by omega)) (fun j hj1 hj2 => ?_))
      by_cases e : j = i
      · subst e; rw [h]; exact ss_at_ext rfl rfl (h1 j (by omega)) ⟨rfl, rfl, rfl⟩
      · exact h2 j (by omega) hj2
    refine br_f (by rw [hx]; exact nI_ge (by omega) (by omega)) ⟨hv, ?_⟩
    rw [nI_clamp (n := i) (by omega)]
    refine br_c (fun z => ⟨hv, xs_findChange ht hc h8 (br_c (fun z2 => nm_r (nI_1 i) (g0 ?_)) (fun z2 => ⟨hv, nm_e (nm_r (nI_1 i) (ih (i + 1) (upd T i xc) (by omega) (fun T' h1 h2 => hp T' (fun j hj => ?_) (fun j hj1 hj2 => ?_))))⟩))⟩) (fun z => nm_r (nI_1 i) (g0 ?_))
    · unfold ss_en
      rw [if_neg]
      intro q
      have q2 : ss_in cr (R i) (8 * t) cnt = true := q.2
      rw [(ss_fc_neg (by omega)).mp z2] at q2; exact nomatch q2
    · rw [h1 j (by omega), ss_un (by omega)]
    · by_cases e : j = i
      · subst e
        have z3 : ss_in cr (R j) (8 * t) cnt = true := by
          rw [ss_fc_neg (by omega)] at z2; exact Bool.of_not_eq_false z2
        unfold ss_en
        rw [if_pos ⟨z, z3⟩]
        unfold ss_at
        rw [h1 j (by omega), ss_us]
      · rw [h2 j (by omega) hj2]
        rw [show ss_at R F (upd T i xc) N j = ss_at R F T N j from ss_at_ext rfl rfl (ss_un e) ⟨rfl, rfl, rfl⟩]
    · unfold ss_en
      rw [if_neg]
      intro q
      exact z q.1
theorem xs_endChanged (ht : t < 4) (hc : cc t = nI cnt) (h8 : cnt ≤ 8) (hn : n ≤ 40) (hx : xn = nI n) (hp : ∀ T' : Nat → Int32, ss_L (ss_at R F T' N) 0 n = (ss_L (ss_at R F T N) 0 n).map (ss_en xc cr t cnt) → ps (xc, xr, xn, xf, R, F, T', N, o, s, cc, cr, ci, cg, cn, ws, wk, wl, wm, fr, fi)) : wpX_endChangedVersions ps (xc, xr, xn, xf, R, F, T, N, o, s, cc, cr, ci, cg, cn, ws, wk, wl, wm, fr, fi) (nI t) := by
  refine ⟨n + 1, xs_end_loop ht hc h8 hn hx n 0 T (by omega) (fun T' _ h2 => hp T' ?_)⟩
  rw [ss_Lmap]
  exact ss_Lcon n 0 (fun j h1 h3 => h2 j h1 (by omega))
theorem ss_nv_at {R F T N cr cn R' F' T' N' : Nat → Int32} {m j : Nat} {c : Int32} (hR : R' = upd R m (cr j)) (hF : F' = upd F m c) (hT : T' = upd T m 2147483647)
    (hN : N' = upd (upd (upd N (3 * m) (cn (3 * j))) (3 * m + 1) (cn (3 * j + 1))) (3 * m + 2) (cn (3 * j + 2))) :
    ss_at R' F' T' N' m = ss_nv c cr cn j ∧ (∀ i, i < m → ss_at R' F' T' N' i = ss_at R F T N i) := by
  subst hR hF hT hN
  refine ⟨?_, fun i hi => ss_at_ext (ss_un (by omega)) (ss_un (by omega)) (ss_un (by omega)) ⟨?_, ?_, ?_⟩⟩
  · unfold ss_at ss_nv
    rw [ss_us, ss_us, ss_us, ss_us]
    rw [ss_un (by omega), ss_un (by omega), ss_us, ss_un (by omega), ss_us]
  · rw [ss_un (by omega), ss_un (by omega), ss_un (by omega)]
  · rw [ss_un (by omega), ss_un (by omega), ss_un (by omega)]
  · rw [ss_un (by omega), ss_un (by omega), ss_un (by omega)]
theorem xs_addVersion {j m : Nat} (hj : j < 32) (hm : m < 40) (hp : ∀ R' F' T' N' : Nat → Int32, ss_at R' F' T' N' m = ss_nv xc cr cn j → (∀ i, i < m → ss_at R' F' T' N' i = ss_at R F T N i) → ps (xc, xr, nI (m + 1), xf, R', F', T', N', o, s, cc, cr, ci, cg, cn, ws, wk, wl, wm, fr, fi)) : wpX_addVersion ps (xc, xr, nI m, xf, R, F, T, N, o, s, cc, cr, ci, cg, cn, ws, wk, wl, wm, fr, fi) (nI j) := by
  have hv : vp_in (nI j) 32 := vp_in_nI hj (by decide)
  have hvm : vp_in (nI m) 40 := vp_in_nI hm (by decide)
  have hcj : (nI j).toNatClampNeg = j := nI_clamp (by omega)
  have hcm : (nI m).toNatClampNeg = m := nI_clamp (by omega)
  refine ⟨hv, hvm, nm_r (e' := upd R m (cr j)) (by rw [hcj, hcm]) ⟨hvm, nm_r (e' := upd F m xc) (by rw [hcm]) ⟨hvm, nm_r (e' := upd T m 2147483647) (by rw [hcm]) ?_⟩⟩⟩
  have hN := ss_nv_at (R := R) (F := F) (T := T) (N := N) (cr := cr) (cn := cn) (m := m) (j := j) (c := xc) rfl rfl rfl rfl
  have hq := hp _ _ _ _ hN.1 hN.2
  exact ⟨4, br_f (by decide) ⟨by rw [ss_k30 j]; exact vp_in_nI (by omega) (by decide), by rw [ss_k30 m]; exact vp_in_nI (by omega) (by decide), nm_r (e' := upd N (3 * m) (cn (3 * j))) (by rw [ss_k30 m, ss_k30 j, nI_clamp (n := 3 * m) (by omega), nI_clamp (n := 3 * j) (by omega)]) (nm_r (e' := 1) (by decide) (br_f (by decide) ⟨by rw [ss_k31 j]; exact vp_in_nI (by omega) (by decide), by rw [ss_k31 m]; exact vp_in_nI (by omega) (by decide), nm_r (e' := upd (upd N (3 * m) (cn (3 * j))) (3 * m + 1) (cn (3 * j + 1))) (by rw [ss_k31 m, ss_k31 j, nI_clamp (n := 3 * m + 1) (by omega), nI_clamp (n := 3 * j + 1) (by omega)]) (nm_r (e' := 2) (by decide) (br_f (by decide) ⟨by rw [ss_k32 j]; exact vp_in_nI (by omega) (by decide), by rw [ss_k32 m]; exact vp_in_nI (by omega) (by decide), nm_r (e' := upd (upd (upd N (3 * m) (cn (3 * j))) (3 * m + 1) (cn (3 * j + 1))) (3 * m + 2) (cn (3 * j + 2))) (by rw [ss_k32 m, ss_k32 j, nI_clamp (n := 3 * m + 2) (by omega), nI_clamp (n := 3 * j + 2) (by omega)]) (nm_r (e' := 3) (by decide) (br_t (by decide) (nm_r (nI_1 m) hq)))⟩))⟩))⟩⟩
theorem xs_addNew_loop (ht : t < 4) (hc : cc t = nI cnt) (h8 : cnt ≤ 8) : ∀ (d i m : Nat) (R F T N : Nat → Int32), i + d = cnt → m + ss_ng cg (8 * t + i) d ≤ 40 → (∀ (m' : Nat) (R' F' T' N' : Nat → Int32), ss_L (ss_at R' F' T' N') 0 m' = ss_L (ss_at R F T N) 0 m ++ ss_nw xc cr cn cg (8 * t + i) d → ps (xc, xr, nI m', xf, R', F', T', N', o, s, cc, cr, ci, cg, cn, ws, wk, wl, wm, fr, fi)) → wX_addNewVersions_2 ps (nI t) (d + 1) (nI i) xc xr (nI m) xf R F T N o s cc cr ci cg cn ws wk wl wm fr fi := by
  intro d
  induction d with
  | zero =>
    intro i m R F T N hi hm hp
    refine ⟨vp_in_nI ht (by decide), br_t ?_ (hp m R F T N (by rw [ss_nw, List.append_nil]))⟩
    rw [nI_clamp (by omega), hc]; exact nI_le (by omega) (by omega)
  | succ d ih =>
    intro i m R F T N hi hm hp
    have hv : vp_in (nI (8 * t + i)) 32 := vp_in_nI (by omega) (by decide)
    rw [ss_ng] at hm
    refine ⟨vp_in_nI ht (by decide), br_f ?_ (nm_r (ss_i8 t i) ⟨hv, ?_⟩)⟩
    · rw [nI_clamp (by omega), hc]; exact nI_ge (by omega) (by omega)
    · rw [nI_clamp (n := 8 * t + i) (by omega)]
      refine br_c (fun z => ?_) (fun z => ?_)
      · rw [if_pos z] at hm
        have hm' : m + 1 + ss_ng cg (8 * t + (i + 1)) d ≤ 40 := by
          have e : 8 * t + (i + 1) = 8 * t + i + 1 := by omega
          rw [e]; omega
        refine br_f (nI_ge (b := 40) (by omega) (by decide)) (xs_addVersion (by omega) (by omega) (fun R1 F1 T1 N1 h1 h2 => ?_))
        refine nm_r (nI_1 i) (ih (i + 1) (m + 1) R1 F1 T1 N1 (by omega) hm' (fun m' R' F' T' N' he => hp m' R' F' T' N' ?_))
        rw [he, ss_nw, if_pos z, ss_Lsnoc, Nat.zero_add, h1, List.append_assoc, List.singleton_append]
        rw [ss_Lcon (V := ss_at R1 F1 T1 N1) (W := ss_at R F T N) m 0 (fun j _ hj => h2 j (by omega))]
        rfl
      · rw [if_neg z, Nat.zero_add] at hm
        refine nm_r (nI_1 i) (ih (i + 1) m R F T N (by omega) hm (fun m' R' F' T' N' he => hp m' R' F' T' N' ?_))
        rw [he, ss_nw, if_neg z]
        rfl
theorem xs_addNew {m : Nat} (ht : t < 4) (hc : cc t = nI cnt) (h8 : cnt ≤ 8) (hm : m + ss_ng cg (8 * t) cnt ≤ 40) (hp : ∀ (m' : Nat) (R' F' T' N' : Nat → Int32), ss_L (ss_at R' F' T' N') 0 m' = ss_L (ss_at R F T N) 0 m ++ ss_nw xc cr cn cg (8 * t) cnt → ps (xc, xr, nI m', xf, R', F', T', N', o, s, cc, cr, ci, cg, cn, ws, wk, wl, wm, fr, fi)) : wpX_addNewVersions ps (xc, xr, nI m, xf, R, F, T, N, o, s, cc, cr, ci, cg, cn, ws, wk, wl, wm, fr, fi) (nI t) :=
  ⟨cnt + 1, xs_addNew_loop ht hc h8 cnt 0 m R F T N (by omega) hm hp⟩
end
