def ss_kp (g h : Nat → Int32) (q : Int32 → Bool) : Nat → Nat → List Int32
  | _, 0 => []
  | i, d + 1 => if q (g i) = true then h i :: ss_kp g h q (i + 1) d else ss_kp g h q (i + 1) d
theorem ss_kp_congr {g h : Nat → Int32} {q q' : Int32 → Bool} : ∀ d i, (∀ j, i ≤ j → j < i + d → q (g j) = q' (g j)) → ss_kp g h q i d = ss_kp g h q' i d := by
  intro d
  induction d with
  | zero => intro i _; rfl
  | succ d ih =>
    intro i hh
    rw [ss_kp, ss_kp, hh i (by omega) (by omega), ih (i + 1) (fun j h1 h2 => hh j (by omega) (by omega))]
theorem ss_kp_nil {g h : Nat → Int32} {q : Int32 → Bool} : ∀ d i, (∀ j, i ≤ j → j < i + d → q (g j) = false) → ss_kp g h q i d = [] := by
  intro d
  induction d with
  | zero => intro i _; rfl
  | succ d ih =>
    intro i hh
    rw [ss_kp, if_neg (by rw [hh i (by omega) (by omega)]; decide)]
    exact ih (i + 1) (fun j h1 h2 => hh j (by omega) (by omega))
theorem ss_kp_map {fr fi : Nat → Int32} {b c : Nat} {x : Int32} (hb : b < 3) (hc : c < 3) : ∀ d i, ((ss_L (ss_fa fr fi) i d).filter (fun q => decide (ss_gt q b = x))).map (fun q => ss_gt q c) = ss_kp (fun j => fi (3 * j + b)) (fun j => fi (3 * j + c)) (fun y => decide (y = x)) i d := by
  intro d
  induction d with
  | zero => intro i; rfl
  | succ d ih =>
    intro i
    rw [ss_L, ss_kp]
    by_cases z : fi (3 * i + b) = x
    · rw [List.filter_cons_of_pos (p := fun q : ss_F => decide (ss_gt q b = x)) (show decide (ss_gt (ss_fa fr fi i) b = x) = true from decide_eq_true (by rw [ss_gt_fa hb]; exact z)), List.map_cons, ih, ss_gt_fa hc, if_pos (decide_eq_true z)]
    · rw [List.filter_cons_of_neg (p := fun q : ss_F => decide (ss_gt q b = x)) (show ¬ decide (ss_gt (ss_fa fr fi i) b = x) = true from by rw [ss_gt_fa hb, decide_eq_false z]; decide), ih, if_neg (by rw [decide_eq_false z]; decide)]
theorem ss_gm_spec {g : Nat → Int32} {q : Int32 → Bool} : ∀ d i, (ss_gm g q i d = i + d ∧ ∀ j, i ≤ j → j < i + d → q (g j) = false) ∨ (ss_gm g q i d < i + d ∧ q (g (ss_gm g q i d)) = true) := by
  intro d
  induction d with
  | zero => intro i; exact Or.inl ⟨rfl, fun j h1 h2 => by omega⟩
  | succ d ih =>
    intro i
    rw [ss_gm]
    by_cases z : q (g i) = true
    · rw [if_pos z]; exact Or.inr ⟨by omega, z⟩
    · rw [if_neg z]
      rcases ih (i + 1) with ⟨h1, h2⟩ | ⟨h1, h2⟩
      · refine Or.inl ⟨by omega, fun j hj1 hj2 => ?_⟩
        by_cases e : j = i
        · subst e; exact Bool.of_not_eq_true z
        · exact h2 j (by omega) (by omega)
      · exact Or.inr ⟨by omega, h2⟩
theorem ss_ct_mono {p q : Nat → Bool} : ∀ d i, (∀ j, i ≤ j → j < i + d → p j = true → q j = true) → ss_ct p i d ≤ ss_ct q i d := by
  intro d
  induction d with
  | zero => intro i _; exact Nat.le_refl 0
  | succ d ih =>
    intro i h
    have h1 := ih (i + 1) (fun j h1 h2 => h j (by omega) (by omega))
    rw [ss_ct, ss_ct]
    by_cases z : p i = true
    · rw [if_pos z, if_pos (h i (by omega) (by omega) z)]; omega
    · rw [if_neg z]; omega
theorem ss_ct_lt {p q : Nat → Bool} : ∀ d i, (∀ j, i ≤ j → j < i + d → p j = true → q j = true) → (∃ j, i ≤ j ∧ j < i + d ∧ q j = true ∧ p j = false) → ss_ct p i d < ss_ct q i d := by
  intro d
  induction d with
  | zero => intro i _ ⟨j, h1, h2, _⟩; omega
  | succ d ih =>
    intro i h ⟨j, h1, h2, h3, h4⟩
    rw [ss_ct, ss_ct]
    by_cases e : j = i
    · subst e
      have h5 := ss_ct_mono (p := p) (q := q) d (j + 1) (fun l h6 h7 => h l (by omega) (by omega))
      rw [if_pos h3, if_neg (by rw [h4]; decide)]; omega
    · have h5 := ih (i + 1) (fun l h6 h7 => h l (by omega) (by omega)) ⟨j, by omega, by omega, h3, h4⟩
      by_cases z : p i = true
      · rw [if_pos z, if_pos (h i (by omega) (by omega) z)]; omega
      · rw [if_neg z]; omega
theorem ss_fst_iff {g : Nat → Int32} {x : Int32} : ∀ d i, ss_fst g x i d = true ↔ ∀ j, i ≤ j → j < i + d → ¬ g j = x := by
  intro d
  induction d with
  | zero => intro i; exact ⟨fun _ j h1 h2 => by omega, fun _ => rfl⟩
  | succ d ih =>
    intro i
    rw [ss_fst, Bool.and_eq_true, decide_eq_true_iff, ih]
    constructor
    · intro ⟨h1, h2⟩ j hj1 hj2
      by_cases e : j = i
      · subst e; exact h1
      · exact h2 j (by omega) (by omega)
    · intro h
      exact ⟨h i (by omega) (by omega), fun j h1 h2 => h j (by omega) (by omega)⟩
theorem ss_fst_ex {g : Nat → Int32} {x : Int32} : ∀ i, g i = x → ∃ j, j ≤ i ∧ g j = x ∧ ss_fst g x 0 j = true := by
  intro i
  induction i using Nat.strongRecOn with
  | _ i ih =>
    intro h
    by_cases z : ∃ l, l < i ∧ g l = x
    · obtain ⟨l, hl, h2⟩ := z
      obtain ⟨j, h3, h4⟩ := ih l hl h2
      exact ⟨j, by omega, h4⟩
    · exact ⟨i, Nat.le_refl i, h, (ss_fst_iff i 0).mpr (fun j _ h2 h3 => z ⟨j, by omega, h3⟩)⟩
theorem ss_bl_lt {g : Nat → Int32} {m i : Nat} {x y : Int32} (hi : i < m) (hx : g i = x) (h : x.toInt < y.toInt) : ss_ct (ss_pb g x) 0 m < ss_ct (ss_pb g y) 0 m := by
  have hp : ∀ (z : Int32) (j : Nat), ss_pb g z j = true ↔ ((g j).toInt < z.toInt ∧ ss_fst g (g j) 0 j = true) := by
    intro z j
    unfold ss_pb
    rw [Bool.and_eq_true, decide_eq_true_iff, ss_le]
    constructor
    · intro ⟨a, b⟩; exact ⟨by omega, b⟩
    · intro ⟨a, b⟩; exact ⟨by omega, b⟩
  refine ss_ct_lt m 0 (fun j _ _ hj => ?_) ?_
  · rw [hp] at hj
    rw [hp]
    exact ⟨by omega, hj.2⟩
  · obtain ⟨j, h1, h2, h3⟩ := ss_fst_ex i hx
    refine ⟨j, by omega, by omega, ?_, ?_⟩
    · rw [hp, h2]; exact ⟨h, h3⟩
    · refine Bool.of_not_eq_true (fun hz => ?_)
      rw [hp, h2] at hz
      omega
theorem ss_pk_eq {g : Nat → Int32} {m i j : Nat} {k : Int32} (hm : m ≤ 48) (hi : i < m) (hj : j < m) (hk : ss_pk g m k (g j) = true) : ss_pk g m k (g i) = decide (g i = g j) := by
  have hk' : nI (ss_ct (ss_pb g (g j)) 0 m) = k := of_decide_eq_true hk
  by_cases e : g i = g j
  · rw [decide_eq_true e, e, hk]
  · rw [decide_eq_false e]
    refine decide_eq_false (fun hz => ?_)
    have h1 := ss_ct_le (ss_pb g (g i)) m 0
    have h2 := ss_ct_le (ss_pb g (g j)) m 0
    have h3 := (nI_eq (by omega) (by omega)).mp (hz.trans hk'.symm)
    have hne : (g i).toInt ≠ (g j).toInt := fun z => e (by rw [ss_eq]; exact z)
    rcases Int.lt_or_gt_of_ne hne with h4 | h4
    · have := ss_bl_lt hi rfl h4; omega
    · have := ss_bl_lt hj rfl h4; omega
section
variable {yn yc yr yf : Int32} {R F T N o s cc cr ci cg cn yk yl ym sr si ke : Nat → Int32}
variable {ps : Int64 → SY → Prop} {m b c n : Nat} {g h l : Nat → Int32} {w k : Int32}
theorem ys_g141 (hn : n ≤ 48) (hl : ∀ j, j < n → ke j = l j) : ∀ d i a e, i + d = n → ((w = 1 → ps (nI n).toInt64 (yn, yc, yr, yf, R, F, T, N, o, s, cc, cr, ci, cg, cn, yk, yl, ym, sr, si, ke)) ∧ (¬ w = 1 → ((w = 2 → ps (ss_sum l i d a) (yn, yc, yr, yf, R, F, T, N, o, s, cc, cr, ci, cg, cn, yk, yl, ym, sr, si, ke)) ∧ (¬ w = 2 → ps (ss_max l i d e).toInt64 (yn, yc, yr, yf, R, F, T, N, o, s, cc, cr, ci, cg, cn, yk, yl, ym, sr, si, ke))))) → wY_group_141 ps w (nI n) yn yc yr yf R F T N o s cc cr ci cg cn yk yl ym sr si ke (d + 1) a e (nI i) := by
  intro d
  induction d with
  | zero => intro i a e hi hp; exact br_t (nI_le (by omega) (by omega)) hp
  | succ d ih =>
    intro i a e hi hp
    have hv : vp_in (nI i) 64 := vp_in_nI (by omega) (by decide)
    refine br_f (nI_ge (by omega) (by omega)) ⟨hv, ?_⟩
    rw [nI_clamp (n := i) (by omega), hl i (by omega)]
    rw [ss_sum, ss_max] at hp
    refine nm_e ⟨hv, br_c (fun z => ?_) (fun z => ⟨hv, nm_e ?_⟩)⟩
    · rw [if_pos z] at hp; exact nm_r (nI_1 i) (ih (i + 1) _ _ (by omega) hp)
    · rw [if_neg z] at hp; exact nm_r (nI_1 i) (ih (i + 1) _ _ (by omega) hp)
theorem ys_gend (hn : n ≤ 48) (hl : ∀ j, j < n → ke j = l j) (hp : ((w = 1 → ps (nI n).toInt64 (yn, yc, yr, yf, R, F, T, N, o, s, cc, cr, ci, cg, cn, yk, yl, ym, sr, si, ke)) ∧ (¬ w = 1 → ((w = 2 → ps (ss_sum l 0 n 0) (yn, yc, yr, yf, R, F, T, N, o, s, cc, cr, ci, cg, cn, yk, yl, ym, sr, si, ke)) ∧ (¬ w = 2 → ps (ss_mx l n).toInt64 (yn, yc, yr, yf, R, F, T, N, o, s, cc, cr, ci, cg, cn, yk, yl, ym, sr, si, ke)))))) : ((nI n ≤ 0 → (∃ n141 : Nat, wY_group_141 ps w (nI n) yn yc yr yf R F T N o s cc cr ci cg cn yk yl ym sr si ke n141 0 0 0)) ∧ (¬ nI n ≤ 0 → (∀ x9_106 : Int32, x9_106 = ke 0 → (∃ n141 : Nat, wY_group_141 ps w (nI n) yn yc yr yf R F T N o s cc cr ci cg cn yk yl ym sr si ke n141 0 x9_106 0)))) := by
  cases n with
  | zero => exact br_t (nI_le (a := 0) (b := 0) (by omega) (by omega)) ⟨1, ys_g141 hn hl 0 0 0 0 (by omega) hp⟩
  | succ d =>
    refine br_f (nI_nle (by omega) (by omega)) (nm_r (hl 0 (by omega)) ⟨d + 2, ys_g141 hn hl (d + 1) 0 0 (l 0) (by omega) ?_⟩)
    have e2 : ss_max l 0 (d + 1) (l 0) = ss_mx l (d + 1) := by rw [ss_max, ite_self]; rfl
    rw [e2]; exact hp
theorem ys_g45 (hm : m ≤ 48) (hb : b < 3) (hc : c < 3) (hg : ∀ j, j < m → si (3 * j + b) = g j) (hh : ∀ j, j < m → si (3 * j + c) = h j) (hw : ¬ w = 0) : ∀ (d i n : Nat) (ke : Nat → Int32), i + d = m → n ≤ i →
    (∀ (n' : Nat) (ke' : Nat → Int32), n' ≤ m → ss_L ke' 0 n' = ss_L ke 0 n ++ ss_kp g h (ss_pk g m k) i d → ∃ l : Nat → Int32, (∀ j, j < n' → ke' j = l j) ∧ ((w = 1 → ps (nI n').toInt64 (yn, yc, yr, nI m, R, F, T, N, o, s, cc, cr, ci, cg, cn, yk, yl, ym, sr, si, ke')) ∧ (¬ w = 1 → ((w = 2 → ps (ss_sum l 0 n' 0) (yn, yc, yr, nI m, R, F, T, N, o, s, cc, cr, ci, cg, cn, yk, yl, ym, sr, si, ke')) ∧ (¬ w = 2 → ps (ss_mx l n').toInt64 (yn, yc, yr, nI m, R, F, T, N, o, s, cc, cr, ci, cg, cn, yk, yl, ym, sr, si, ke')))))) →
    wY_group_45 ps (nI b) k w (nI c) yn yc yr (nI m) (d + 1) (nI n) (nI i) R F T N o s cc cr ci cg cn yk yl ym sr si ke := by
  intro d
  induction d with
  | zero =>
    intro i n ke hi hn hp
    obtain ⟨l, hl, hq⟩ := hp n ke (by omega) (by rw [ss_kp, List.append_nil])
    exact br_t (nI_le (by omega) (by omega)) (ys_gend (by omega) hl hq)
  | succ d ih =>
    intro i n ke hi hn hp
    refine br_f (nI_ge (by omega) (by omega)) ?_
    rw [ss_3i, ss_3i, nI_clamp (n := 3 * i + b) (by omega), nI_clamp (n := 3 * i + c) (by omega), hg i (by omega), hh i (by omega), nI_clamp (n := n) (by omega)]
    refine ⟨vp_in_nI (by omega) (by decide), nm_e (ys_below hm hb hg (br_c (fun z => br_f hw ⟨vp_in_nI (by omega) (by decide), vp_in_nI (by omega) (by decide), nm_e (nm_r (nI_1 n) (nm_r (nI_1 i) ?_))⟩) (fun z => nm_r (nI_1 i) ?_)))⟩
    · refine ih (i + 1) (n + 1) (upd ke n (h i)) (by omega) (by omega) (fun n' ke' hn' he => hp n' ke' hn' ?_)
      rw [he, ss_kp, if_pos (show ss_pk g m k (g i) = true from decide_eq_true z), ss_Lsnoc, Nat.zero_add, ss_us, List.append_assoc, List.singleton_append]
      rw [ss_Lcon (V := upd ke n (h i)) (W := ke) n 0 (fun j _ hj => ss_un (by omega))]
    · refine ih (i + 1) n ke (by omega) (by omega) (fun n' ke' hn' he => hp n' ke' hn' ?_)
      rw [he, ss_kp, if_neg (show ¬ ss_pk g m k (g i) = true from by unfold ss_pk; rw [decide_eq_false z]; decide)]
theorem ys_g45_0 (hm : m ≤ 48) (hb : b < 3) (hc : c < 3) (hg : ∀ j, j < m → si (3 * j + b) = g j) : ∀ (d i : Nat), i + d = m → (ss_gm g (ss_pk g m k) i d = m → ps 0 (yn, yc, yr, nI m, R, F, T, N, o, s, cc, cr, ci, cg, cn, yk, yl, ym, sr, si, ke)) → (ss_gm g (ss_pk g m k) i d < m → ps (g (ss_gm g (ss_pk g m k) i d)).toInt64 (yn, yc, yr, nI m, R, F, T, N, o, s, cc, cr, ci, cg, cn, yk, yl, ym, sr, si, ke)) → wY_group_45 ps (nI b) k 0 (nI c) yn yc yr (nI m) (d + 1) (nI 0) (nI i) R F T N o s cc cr ci cg cn yk yl ym sr si ke := by
  intro d
  induction d with
  | zero =>
    intro i hi h1 h2
    refine br_t (nI_le (by omega) (by omega)) (ys_gend (n := 0) (l := ke) (by omega) (fun j hj => rfl) ?_)
    exact br_f (by decide) (br_f (by decide) (h1 (by rw [ss_gm]; omega)))
  | succ d ih =>
    intro i hi h1 h2
    refine br_f (nI_ge (by omega) (by omega)) ?_
    rw [ss_3i, ss_3i, nI_clamp (n := 3 * i + b) (by omega), hg i (by omega)]
    rw [ss_gm] at h1 h2
    refine ⟨vp_in_nI (by omega) (by decide), nm_e (ys_below hm hb hg (br_c (fun z => br_t rfl ?_) (fun z => nm_r (nI_1 i) ?_)))⟩
    · rw [if_pos (show ss_pk g m k (g i) = true from decide_eq_true z)] at h2
      exact h2 (by omega)
    · rw [if_neg (show ¬ ss_pk g m k (g i) = true from by unfold ss_pk; rw [decide_eq_false z]; decide)] at h1 h2
      exact ih (i + 1) (by omega) h1 h2
end
theorem i_vc_group {k : Nat} {u : SX} {v : SY} (I : i_Rel k u v) (hk : k + 6 ≤ 3072) (v1 : Int32) (v2 : Int32) (v3 : Int32) (v4 : Int32) (v5 : Int32) : wpX_group (fun r u' => wpY_group (fun r' v' => r' = r ∧ i_Rel (k + 6) u' v') v v1 v2 v3 v4 v5) u v1 v2 v3 v4 v5 := by
  obtain ⟨ck, rc, nx, ny, xf, yf, R, F, T, N, VR, VF, VT, VN, o, s, cc, cr, ci, cg, cn, ws, wk, wl, wm, fr, fi, yk, yl, ym, sr, si, ke, rfl, rfl, h1, h2, h3, h4⟩ := I
  unfold wpX_group; dsimp only
  by_cases ha : v1 = -1 ∨ ss_op o v1
  · refine xs_canAsk_t ha (br_f ss_10 ?_)
    obtain ⟨t, cnt, tm, hwho, hlive⟩ := ss_ask_who h3 ha
    by_cases hby : ss_am v2 3
    · refine xs_isColumn_t hby (br_f ss_10 ?_)
      by_cases hcol : ss_am v5 3
      · refine xs_isColumn_t hcol (br_f ss_10 (xs_findRows h1 rfl hwho (ss_wr_x h4) (fun m fr' fi' hm he => ?_)))
        dsimp only
        have hby' := hby
        have hcol' := hcol
        obtain ⟨b, hb, rfl⟩ := hby'
        obtain ⟨c, hc, rfl⟩ := hcol'
        -- the reference's answer, whatever the component's found rows are by now
        have hY : ∀ (r : Int64) (x' : Int32) (fr2 fi2 : Nat → Int32), (¬ ss_am v4 4 → r = 0) →
            (v4 = 0 → (ss_gm (fun j => fi' (3 * j + b)) (ss_pk (fun j => fi' (3 * j + b)) m v3) 0 m = m → r = 0) ∧ (ss_gm (fun j => fi' (3 * j + b)) (ss_pk (fun j => fi' (3 * j + b)) m v3) 0 m < m → r = (fi' (3 * ss_gm (fun j => fi' (3 * j + b)) (ss_pk (fun j => fi' (3 * j + b)) m v3) 0 m + b)).toInt64)) →
            (ss_am v4 4 → ¬ v4 = 0 → ∀ (n' : Nat) (ke' : Nat → Int32), n' ≤ m → ss_L ke' 0 n' = ss_kp (fun j => fi' (3 * j + b)) (fun j => fi' (3 * j + c)) (ss_pk (fun j => fi' (3 * j + b)) m v3) 0 m → ∃ l : Nat → Int32, (∀ j, j < n' → ke' j = l j) ∧ ((v4 = 1 → r = (nI n').toInt64) ∧ (¬ v4 = 1 → ((v4 = 2 → r = ss_sum l 0 n' 0) ∧ (¬ v4 = 2 → r = (ss_mx l n').toInt64))))) →
            wpY_group (fun r' v' => r' = r ∧ i_Rel (k + 6) (nI ck, nI rc, nI nx, x', R, F, T, N, o, s, cc, cr, ci, cg, cn, ws, wk, wl, wm, fr2, fi2) v') (nI ny, nI ck, nI rc, yf, VR, VF, VT, VN, o, s, cc, cr, ci, cg, cn, yk, yl, ym, sr, si, ke) v1 (nI b) v3 v4 (nI c) := by
          intro r x' fr2 fi2 qb q0 q1
          unfold wpY_group; dsimp only
          refine ys_look h2 rfl ha hwho (ss_wr_y h4) (fun m' sr' si' he' => ?_)
          dsimp only
          rw [← ss_Q_eq h3.2.2.1 hlive h4] at he'
          obtain ⟨rfl, hr, hg⟩ := ss_agree he he'
          have hR : ∀ ke' : Nat → Int32, i_Rel (k + 6) (nI ck, nI rc, nI nx, x', R, F, T, N, o, s, cc, cr, ci, cg, cn, ws, wk, wl, wm, fr2, fi2) (nI ny, nI ck, nI rc, nI m', VR, VF, VT, VN, o, s, cc, cr, ci, cg, cn, yk, yl, ym, sr', si', ke') := fun ke' => ss_mk h1 h2 (ss_I_up h3) h4
          refine br_f ss_10 (ys_among_t (n := 3) rfl (by decide) hby (br_f ss_10 (ys_among_t (n := 3) rfl (by decide) hcol (br_f ss_10 ?_))))
          by_cases hwhat : ss_am v4 4
          · refine ys_among_t (n := 4) rfl (by decide) hwhat (br_f ss_10 ?_)
            by_cases hz : v4 = 0
            · have q := q0 hz
              rw [hz]
              exact ⟨m' + 1, ys_g45_0 hm hb hc (hg b hb) m' 0 (by omega) (fun e => ⟨(q.1 e).symm, hR ke⟩) (fun e => ⟨(q.2 e).symm, hR ke⟩)⟩
            · refine ⟨m' + 1, ys_g45 hm hb hc (hg b hb) (hg c hc) hz m' 0 0 ke (by omega) (by omega) (fun n' ke' hn' heq => ?_)⟩
              obtain ⟨l, hl, a1, a2⟩ := q1 hwhat hz n' ke' hn' heq
              exact ⟨l, hl, fun w => ⟨(a1 w).symm, hR ke'⟩, fun w => ⟨fun w2 => ⟨((a2 w).1 w2).symm, hR ke'⟩, fun w2 => ⟨((a2 w).2 w2).symm, hR ke'⟩⟩⟩
          · exact ys_among_f (n := 4) rfl (by decide) hwhat (br_t rfl ⟨(qb hwhat).symm, hR ke⟩)
        refine xs_groupMember hm hb (fun j _ => rfl) (fun hgm => ?_) (fun hgm => ?_)
        · -- no such group
          have hnone : ∀ j, 0 ≤ j → j < 0 + m → ss_pk (fun j => fi' (3 * j + b)) m v3 (fi' (3 * j + b)) = false := by
            rcases ss_gm_spec (g := fun j => fi' (3 * j + b)) (q := ss_pk (fun j => fi' (3 * j + b)) m v3) m 0 with ⟨_, hh⟩ | ⟨hh, _⟩
            · exact hh
            · omega
          refine br_f (by decide) (hY 0 (nI m) fr' fi' (fun _ => rfl) (fun _ => ⟨fun _ => rfl, fun e => by omega⟩) (fun _ _ n' ke' hn' heq => ⟨ke', fun _ _ => rfl, ?_⟩))
          rw [ss_kp_nil m 0 hnone] at heq
          have hn0 : n' = 0 := by
            have := congrArg List.length heq
            rw [ss_Llen] at this
            exact this
          subst hn0
          exact ⟨fun _ => rfl, fun _ => ⟨fun _ => rfl, fun _ => rfl⟩⟩
        · have hj : ∃ j0, j0 = ss_gm (fun j => fi' (3 * j + b)) (ss_pk (fun j => fi' (3 * j + b)) m v3) 0 m := ⟨_, rfl⟩
          obtain ⟨j0, hj0⟩ := hj
          have hpk : ss_pk (fun j => fi' (3 * j + b)) m v3 (fi' (3 * j0 + b)) = true := by
            rcases ss_gm_spec (g := fun j => fi' (3 * j + b)) (q := ss_pk (fun j => fi' (3 * j + b)) m v3) m 0 with ⟨hh, _⟩ | ⟨_, hh⟩
            · omega
            · rw [hj0]; exact hh
          rw [← hj0] at hgm hY
          rw [← hj0, ss_i3, nI_clamp (n := 3 * j0 + b) (by omega)]
          refine br_t (nI_pos' (by omega)) ⟨vp_in_nI (by omega) (by decide), nm_e (xs_keepOnly hm hb (fun m2 fr2 fi2 hm2 he2 => ?_))⟩
          dsimp only
          have hcolE : ss_L (fun j => fi2 (3 * j + c)) 0 m2 = ss_kp (fun j => fi' (3 * j + b)) (fun j => fi' (3 * j + c)) (ss_pk (fun j => fi' (3 * j + b)) m v3) 0 m := by
            have e1 := congrArg (fun l : List ss_F => l.map (fun q => ss_gt q c)) he2
            have e2 : (ss_L (ss_fa fr2 fi2) 0 m2).map (fun q => ss_gt q c) = ss_L (fun j => fi2 (3 * j + c)) 0 m2 := by
              rw [ss_Lmap]
              exact ss_Lcon m2 0 (fun j _ _ => ss_gt_fa hc)
            rw [← e2, show (ss_L (ss_fa fr2 fi2) 0 m2).map (fun q => ss_gt q c) = _ from e1, ss_kp_map hb hc]
            exact ss_kp_congr m 0 (fun j _ hj => (ss_pk_eq (g := fun j => fi' (3 * j + b)) hm (by omega) hgm hpk).symm)
          have hag : ∀ (n' : Nat) (ke' : Nat → Int32), ss_L ke' 0 n' = ss_kp (fun j => fi' (3 * j + b)) (fun j => fi' (3 * j + c)) (ss_pk (fun j => fi' (3 * j + b)) m v3) 0 m → n' = m2 ∧ ∀ j, j < n' → ke' j = fi2 (3 * j + c) := by
            intro n' ke' heq
            have e : n' = m2 := by
              have a := congrArg List.length heq
              have b := congrArg List.length hcolE
              rw [ss_Llen] at a b
              omega
            subst e
            have hj := ss_Linj n' 0 (heq.trans hcolE.symm)
            exact ⟨rfl, fun j hm => hj j (by omega) (by omega)⟩
          by_cases hwhat : ss_am v4 4
          · have hcase : v4 = 0 ∨ v4 = 1 ∨ v4 = 2 ∨ v4 = 3 := by
              obtain ⟨j, hj, rfl⟩ := hwhat
              match j, hj with
              | 0, _ => exact Or.inl rfl
              | 1, _ => exact Or.inr (Or.inl rfl)
              | 2, _ => exact Or.inr (Or.inr (Or.inl rfl))
              | 3, _ => exact Or.inr (Or.inr (Or.inr rfl))
            rcases hcase with rfl | rfl | rfl | rfl
            · exact br_f (by decide) (br_f (by decide) (br_t rfl (hY _ (nI m2) fr2 fi2 (fun z => absurd hwhat z) (fun _ => ⟨fun e => absurd e (Nat.ne_of_lt hgm), fun _ => rfl⟩) (fun _ z => absurd rfl z))))
            · refine br_f (by decide) (br_f (by decide) (br_f (by decide) (br_t rfl (hY _ (nI m2) fr2 fi2 (fun z => absurd hwhat z) (fun z => absurd z (by decide)) (fun _ _ n' ke' _ heq => ?_)))))
              obtain ⟨rfl, hl⟩ := hag n' ke' heq
              exact ⟨_, hl, br_t rfl rfl⟩
            · refine br_f (by decide) (br_f (by decide) (br_f (by decide) (br_f (by decide) (br_t rfl (xs_sumOf (by omega) hc (fun j _ => rfl) (hY _ (nI m2) fr2 fi2 (fun z => absurd hwhat z) (fun z => absurd z (by decide)) (fun _ _ n' ke' _ heq => ?_)))))))
              obtain ⟨rfl, hl⟩ := hag n' ke' heq
              exact ⟨_, hl, br_f (by decide) (br_t rfl rfl)⟩
            · refine br_f (by decide) (br_f (by decide) (br_f (by decide) (br_f (by decide) (br_f (by decide) (br_t rfl (xs_greatestOf (by omega) hc (fun j _ => rfl) (hY _ (nI m2) fr2 fi2 (fun z => absurd hwhat z) (fun z => absurd z (by decide)) (fun _ _ n' ke' _ heq => ?_))))))))
              obtain ⟨rfl, hl⟩ := hag n' ke' heq
              exact ⟨_, hl, br_f (by decide) (br_f (by decide) rfl)⟩
          · have hYb := hY 0 (nI m2) fr2 fi2 (fun _ => rfl) (fun z => absurd (show ss_am v4 4 from ⟨0, by decide, z⟩) hwhat) (fun z => absurd z hwhat)
            exact br_c (fun _ => hYb) (fun _ => br_c (fun _ => hYb) (fun _ => br_f (fun z => hwhat ⟨0, by decide, z⟩) (br_f (fun z => hwhat ⟨1, by decide, z⟩) (br_f (fun z => hwhat ⟨2, by decide, z⟩) (br_f (fun z => hwhat ⟨3, by decide, z⟩) trivial)))))
      · refine xs_isColumn_f hcol (br_t rfl ?_)
        unfold wpY_group; dsimp only
        refine ys_look h2 rfl ha hwho (ss_wr_y h4) (fun m' sr' si' he' => ?_)
        exact br_f ss_10 (ys_among_t (n := 3) rfl (by decide) hby (br_f ss_10 (ys_among_f (n := 3) rfl (by decide) hcol (br_t rfl ⟨rfl, ss_mk h1 h2 (ss_I_up h3) h4⟩))))
    · refine xs_isColumn_f hby (br_t rfl ?_)
      unfold wpY_group; dsimp only
      refine ys_look h2 rfl ha hwho (ss_wr_y h4) (fun m' sr' si' he' => ?_)
      exact br_f ss_10 (ys_among_f (n := 3) rfl (by decide) hby (br_t rfl ⟨rfl, ss_mk h1 h2 (ss_I_up h3) h4⟩))
  · refine xs_canAsk_f ha (br_t rfl ?_)
    unfold wpY_group; dsimp only
    exact ys_look_f ha (br_t rfl ⟨rfl, ss_mk h1 h2 (ss_I_up h3) h4⟩)
