def ss_ck (st : Int32) (cr ci : Nat → Int32) (k : Nat) (v : ss_V) : Bool := decide (ci k = 0) && (decide (v.1 = cr k) && ss_af st v)
def ss_cf (st : Int32) (cr ci : Nat → Int32) (L : List ss_V) : Nat → Nat → Bool
  | _, 0 => false
  | k, d + 1 => L.any (ss_ck st cr ci k) || ss_cf st cr ci L (k + 1) d
def ss_md (ci cg : Nat → Int32) : Nat → Nat → Nat
  | _, 0 => 0
  | i, d + 1 => (if ci i = 0 ∨ cg i = 0 then 1 else 0) + ss_md ci cg (i + 1) d
theorem ss_md_le (ci cg : Nat → Int32) : ∀ d i, ss_md ci cg i d ≤ d := by
  intro d
  induction d with
  | zero => intro i; exact Nat.le_refl 0
  | succ d ih =>
    intro i
    rw [ss_md]
    have := ih (i + 1)
    split <;> omega
theorem ss_md_hc (ci cg : Nat → Int32) : ∀ d i, 0 < ss_md ci cg i d ↔ ss_hc ci cg i d = true := by
  intro d
  induction d with
  | zero => intro i; exact ⟨fun h => absurd h (by rw [ss_md]; omega), fun h => nomatch h⟩
  | succ d ih =>
    intro i
    rw [ss_md, ss_hc, Bool.or_eq_true, decide_eq_true_iff, ← ih]
    by_cases z : ci i = 0 ∨ cg i = 0
    · rw [if_pos z]; exact ⟨fun _ => Or.inl z, fun _ => by omega⟩
    · rw [if_neg z, Nat.zero_add]; exact ⟨fun h => Or.inr h, fun h => h.elim (fun q => absurd q z) id⟩
section
variable {yn yc yr yf : Int32} {R F T N o s cc cr ci cg cn yk yl ym sr si ke : Nat → Int32}
variable {post : Int32 → Prop} {t cnt n : Nat}
theorem ys_cf_76 {J5 J : Int32 → Prop} {k i : Nat} {z : Bool} (hk : k < 32) (hi : i < 56) (h1 : (decide (ci k = 0) && (decide (R i = cr k) && z)) = true → post 1) (h0 : (decide (ci k = 0) && (decide (R i = cr k) && z)) = false → J (nI (i + 1))) : wY_conflicts_76 post J5 J (nI t) (nI k) (nI i) (ss_b z) yn yc yr yf R F T N o s cc cr ci cg cn yk yl ym sr si ke := by
  have hvk : vp_in (nI k) 32 := vp_in_nI hk (by decide)
  have hvi : vp_in (nI i) 56 := vp_in_nI hi (by decide)
  have hck : (nI k).toNatClampNeg = k := nI_clamp (by omega)
  have hci : (nI i).toNatClampNeg = i := nI_clamp (by omega)
  refine ⟨hvk, ?_⟩
  rw [hck, hci]
  refine br_c (fun z1 => ⟨hvi, hvk, br_c (fun z2 => ?_) (fun z2 => nm_r (nI_1 i) (h0 ?_))⟩) (fun z1 => nm_r (nI_1 i) (h0 ?_))
  · rw [decide_eq_true z1, decide_eq_true z2, Bool.true_and, Bool.true_and] at h1 h0
    cases z with
    | true => exact br_f ss_10 (h1 rfl)
    | false => exact br_t rfl (nm_r (nI_1 i) (h0 rfl))
  · rw [decide_eq_false z2, Bool.false_and, Bool.and_false]
  · rw [decide_eq_false z1, Bool.false_and]
theorem ys_cf_22 {J5 : Int32 → Prop} {k : Nat} (ht : t < 4) (hk : k < 32) (hn : n ≤ 56) (hx : yn = nI n) : ∀ d i, i + d = n → ((ss_L (ss_at R F T N) i d).any (ss_ck (s t) cr ci k) = true → post 1) → ((ss_L (ss_at R F T N) i d).any (ss_ck (s t) cr ci k) = false → J5 (nI (k + 1))) → wY_conflicts_22 post J5 (nI t) (nI k) yn yc yr yf R F T N o s cc cr ci cg cn yk yl ym sr si ke (d + 1) (nI i) := by
  intro d
  induction d with
  | zero =>
    intro i hi h1 h0
    exact br_t (by rw [hx]; exact nI_le (by omega) (by omega)) (nm_r (nI_1 k) (h0 rfl))
  | succ d ih =>
    intro i hi h1 h0
    have hvt : vp_in (nI t) 4 := vp_in_nI ht (by decide)
    have hvi : vp_in (nI i) 56 := vp_in_nI (by omega) (by decide)
    have hct : (nI t).toNatClampNeg = t := nI_clamp (by omega)
    have hci : (nI i).toNatClampNeg = i := nI_clamp (by omega)
    rw [ss_L, List.any_cons] at h1 h0
    have g : ∀ z : Bool, ss_af (s t) (ss_at R F T N i) = z → wY_conflicts_76 post J5 (wY_conflicts_22 post J5 (nI t) (nI k) yn yc yr yf R F T N o s cc cr ci cg cn yk yl ym sr si ke (d + 1)) (nI t) (nI k) (nI i) (ss_b z) yn yc yr yf R F T N o s cc cr ci cg cn yk yl ym sr si ke := by
      intro z hz
      have e : ss_ck (s t) cr ci k (ss_at R F T N i) = (decide (ci k = 0) && (decide (R i = cr k) && z)) := by
        unfold ss_ck; rw [hz]; rfl
      rw [e] at h1 h0
      refine ys_cf_76 hk (by omega) (fun h => h1 (by rw [h]; rfl)) (fun h => ih (i + 1) (by omega) (fun q => h1 ?_) (fun q => h0 ?_))
      · rw [q, Bool.or_true]
      · rw [h, q]; rfl
    refine br_f (by rw [hx]; exact nI_ge (by omega) (by omega)) ⟨hvi, hvt, ?_⟩
    rw [hci, hct]
    have hT : (T i).toInt < 2147483648 := by have := Int32.toInt_lt (T i); omega
    refine br_c (fun z1 => g true ?_) (fun z1 => ⟨hvi, br_c (fun z2 => g false ?_) (fun z2 => ⟨hvi, hvt, br_c (fun z3 => g false ?_) (fun z3 => g true ?_)⟩)⟩)
    · rw [ss_lt] at z1
      unfold ss_af
      rw [decide_eq_true (show (s t).toInt < (ss_at R F T N i).2.1.toInt from z1), Bool.true_or]
    · rw [ss_lt] at z1
      rw [ss_le, ss_ev] at z2
      unfold ss_af
      rw [decide_eq_false (show ¬ (s t).toInt < (ss_at R F T N i).2.1.toInt from z1), Bool.false_or]
      exact decide_eq_false (fun q => q.1 (show (T i).toInt = 2147483647 by omega))
    · rw [ss_lt] at z1
      rw [ss_le] at z3
      unfold ss_af
      rw [decide_eq_false (show ¬ (s t).toInt < (ss_at R F T N i).2.1.toInt from z1), Bool.false_or]
      exact decide_eq_false (fun q => by have h9 : (s t).toInt < (T i).toInt := q.2; omega)
    · rw [ss_le, ss_ev] at z2
      rw [ss_le] at z3
      unfold ss_af
      have h9 : (ss_at R F T N i).2.2.1.toInt ≠ 2147483647 ∧ (s t).toInt < (ss_at R F T N i).2.2.1.toInt := ⟨fun q => z2 (Int.le_of_eq q.symm), Int.lt_of_not_ge z3⟩
      rw [decide_eq_true h9, Bool.or_true]
theorem ys_cf_loop (ht : t < 4) (hc : cc t = nI cnt) (h8 : cnt ≤ 8) (hn : n ≤ 56) (hx : yn = nI n) : ∀ d i, i + d = cnt → post (ss_b (ss_cf (s t) cr ci (ss_L (ss_at R F T N) 0 n) (8 * t + i) d)) → wY_conflicts_5 post (nI t) yn yc yr yf R F T N o s cc cr ci cg cn yk yl ym sr si ke (d + 1) (nI (8 * t + i)) := by
  intro d
  have e8 : 8 * nI t + cc (nI t).toNatClampNeg = nI (8 * t + cnt) := by rw [nI_clamp (by omega), hc, ss_8i]
  induction d with
  | zero =>
    intro i hi hp
    refine ⟨vp_in_nI ht (by decide), br_t ?_ hp⟩
    rw [e8]; exact nI_le (by omega) (by omega)
  | succ d ih =>
    intro i hi hp
    rw [ss_cf] at hp
    refine ⟨vp_in_nI ht (by decide), br_f ?_ ⟨n + 1, ys_cf_22 ht (by omega) hn hx n 0 (by omega) (fun h => ?_) (fun h => ih (i + 1) (by omega) ?_)⟩⟩
    · rw [e8]; exact nI_ge (by omega) (by omega)
    · rw [h, Bool.true_or] at hp; exact hp
    · rw [h, Bool.false_or] at hp; exact hp
theorem ys_conflicts (ht : t < 4) (hc : cc t = nI cnt) (h8 : cnt ≤ 8) (hn : n ≤ 56) (hx : yn = nI n) (hp : post (ss_b (ss_cf (s t) cr ci (ss_L (ss_at R F T N) 0 n) (8 * t) cnt))) : wpY_conflicts post (yn, yc, yr, yf, R, F, T, N, o, s, cc, cr, ci, cg, cn, yk, yl, ym, sr, si, ke) (nI t) :=
  nm_r (ss_8j t) ⟨cnt + 1, ys_cf_loop ht hc h8 hn hx cnt 0 (by omega) hp⟩
theorem ys_ab_108t {J : Int32 → Int32 → Prop} {k c : Nat} (hp : J (nI (c + 1)) (nI (k + 1))) : ∀ d i, i + d = 4 → wY_aliveBehind_108 post J (nI t) (nI c) (nI k) yn yc yr yf R F T N o s cc cr ci cg cn yk yl ym sr si ke (d + 1) 1 (nI i) := by
  intro d
  induction d with
  | zero => intro i hi; exact br_t (nI_le (a := 4) (by omega) (by omega)) (br_f ss_10 (nm_r (nI_1 c) (nm_r (nI_1 k) hp)))
  | succ d ih =>
    intro i hi
    exact br_f (nI_ge (b := 4) (by omega) (by decide)) (br_f ss_10 (nm_r (nI_1 i) (ih (i + 1) (by omega))))
theorem ys_ab_108f {J : Int32 → Int32 → Prop} {k c : Nat} (hk : k < 56) : ∀ d i, i + d = 4 → (ss_sn o s (nI t) (ss_at R F T N k) i d = true → J (nI (c + 1)) (nI (k + 1))) → (ss_sn o s (nI t) (ss_at R F T N k) i d = false → J (nI c) (nI (k + 1))) → wY_aliveBehind_108 post J (nI t) (nI c) (nI k) yn yc yr yf R F T N o s cc cr ci cg cn yk yl ym sr si ke (d + 1) 0 (nI i) := by
  intro d
  induction d with
  | zero => intro i hi h1 h0; exact br_t (nI_le (a := 4) (by omega) (by omega)) (br_t rfl (nm_r (nI_1 k) (h0 rfl)))
  | succ d ih =>
    intro i hi h1 h0
    have hc : (nI i).toNatClampNeg = i := nI_clamp (by omega)
    have hn := ih (i + 1) (by omega)
    rw [ss_sn] at h1 h0
    refine br_f (nI_ge (b := 4) (by omega) (by decide)) (br_t rfl ⟨vp_in_nI (by omega) (by decide), ?_⟩)
    rw [hc]
    refine br_c (fun z => nm_r (nI_1 i) ?_) (fun z => br_c (fun z2 => nm_r (nI_1 i) ?_) (fun z2 => ⟨vp_in_nI (by omega) (by decide), ?_⟩))
    · rw [decide_eq_false (fun q => q.1 z), Bool.false_and, Bool.false_or] at h1 h0; exact hn h1 h0
    · rw [decide_eq_false (fun q => q.2 z2), Bool.false_and, Bool.false_or] at h1 h0; exact hn h1 h0
    · rw [decide_eq_true ⟨z, z2⟩, Bool.true_and] at h1 h0
      refine ys_holds hk ?_
      cases hb : ss_hd (ss_at R F T N k) (s i) with
      | false => rw [hb, Bool.false_or] at h1 h0; exact br_t rfl (nm_r (nI_1 i) (hn h1 h0))
      | true => rw [hb, Bool.true_or] at h1; exact br_f ss_10 (nm_r (nI_1 i) (ys_ab_108t (h1 rfl) d (i + 1) (by omega)))
theorem ys_ab_loop (ht : t < 4) (hc : cc t = nI cnt) (h8 : cnt ≤ 8) (hn : n ≤ 56) (hx : yn = nI n) : ∀ d i c, i + d = n → post (nI (c + (ss_L (ss_at R F T N) i d).countP (ss_bh o s cr t cnt))) → wY_aliveBehind_42 post (nI t) yn yc yr yf R F T N o s cc cr ci cg cn yk yl ym sr si ke (d + 1) (nI c) (nI i) := by
  intro d
  induction d with
  | zero => intro i c hi hp; exact br_t (by rw [hx]; exact nI_le (by omega) (by omega)) hp
  | succ d ih =>
    intro i c hi hp
    have hv : vp_in (nI i) 56 := vp_in_nI (by omega) (by decide)
    have hci : (nI i).toNatClampNeg = i := nI_clamp (by omega)
    rw [ss_L, List.countP_cons] at hp
    have g1 : ss_bh o s cr t cnt (ss_at R F T N i) = true → wY_aliveBehind_42 post (nI t) yn yc yr yf R F T N o s cc cr ci cg cn yk yl ym sr si ke (d + 1) (nI (c + 1)) (nI (i + 1)) := by
      intro h
      refine ih (i + 1) (c + 1) (by omega) ?_
      rw [if_pos h] at hp
      rw [show c + 1 + (ss_L (ss_at R F T N) (i + 1) d).countP (ss_bh o s cr t cnt) = c + ((ss_L (ss_at R F T N) (i + 1) d).countP (ss_bh o s cr t cnt) + 1) from by omega]
      exact hp
    have g0 : ss_bh o s cr t cnt (ss_at R F T N i) = false → wY_aliveBehind_42 post (nI t) yn yc yr yf R F T N o s cc cr ci cg cn yk yl ym sr si ke (d + 1) (nI c) (nI (i + 1)) := by
      intro h
      refine ih (i + 1) c (by omega) ?_
      rw [if_neg (by rw [h]; decide), Nat.add_zero] at hp
      exact hp
    refine br_f (by rw [hx]; exact nI_ge (by omega) (by omega)) ⟨hv, ?_⟩
    rw [hci]
    refine br_c (fun z => ⟨hv, ys_changeOf ht hc h8 (br_c (fun z2 => ?_) (fun z2 => ?_))⟩) (fun z => ?_)
    · rw [ss_fc_neg (by omega)] at z2
      have e : ss_bh o s cr t cnt (ss_at R F T N i) = true := by
        unfold ss_bh
        rw [show ss_in cr (ss_at R F T N i).1 (8 * t) cnt = false from z2, Bool.not_false, Bool.and_true, decide_eq_true (show (ss_at R F T N i).2.2.1 = 2147483647 from z), Bool.true_or]
      refine ⟨hv, br_t (by rw [hci]; exact z) (br_t rfl ⟨5, ys_ab_108t (g1 e) 4 0 rfl⟩)⟩
    · rw [ss_fc_neg (by omega)] at z2
      have e : ss_bh o s cr t cnt (ss_at R F T N i) = ss_sn o s (nI t) (ss_at R F T N i) 0 4 := by
        unfold ss_bh
        rw [show ss_in cr (ss_at R F T N i).1 (8 * t) cnt = true from Bool.of_not_eq_false z2, Bool.not_true, Bool.and_false, Bool.false_or]
      rw [e] at g1 g0
      exact ⟨hv, br_t (by rw [hci]; exact z) (br_f ss_10 ⟨5, ys_ab_108f (by omega) 4 0 rfl g1 g0⟩)⟩
    · have e : ss_bh o s cr t cnt (ss_at R F T N i) = ss_sn o s (nI t) (ss_at R F T N i) 0 4 := by
        unfold ss_bh
        rw [decide_eq_false (show ¬ (ss_at R F T N i).2.2.1 = 2147483647 from z), Bool.false_and, Bool.false_or]
      rw [e] at g1 g0
      exact ⟨hv, br_f (by rw [hci]; exact z) ⟨5, ys_ab_108f (by omega) 4 0 rfl g1 g0⟩⟩
theorem ys_ab_7 (ht : t < 4) (hc : cc t = nI cnt) (h8 : cnt ≤ 8) (hn : n ≤ 56) (hx : yn = nI n) : ∀ d i c, i + d = cnt → post (nI (c + ss_ng cg (8 * t + i) d + (ss_L (ss_at R F T N) 0 n).countP (ss_bh o s cr t cnt))) → wY_aliveBehind_7 post (nI t) yn yc yr yf R F T N o s cc cr ci cg cn yk yl ym sr si ke (d + 1) (nI c) (nI (8 * t + i)) := by
  intro d
  have e8 : 8 * nI t + cc (nI t).toNatClampNeg = nI (8 * t + cnt) := by rw [nI_clamp (by omega), hc, ss_8i]
  induction d with
  | zero =>
    intro i c hi hp
    refine ⟨vp_in_nI ht (by decide), br_t ?_ ⟨n + 1, ys_ab_loop ht hc h8 hn hx n 0 c (by omega) hp⟩⟩
    rw [e8]; exact nI_le (by omega) (by omega)
  | succ d ih =>
    intro i c hi hp
    rw [ss_ng] at hp
    refine ⟨vp_in_nI ht (by decide), br_f (by rw [e8]; exact nI_ge (by omega) (by omega)) ⟨vp_in_nI (by omega) (by decide), ?_⟩⟩
    rw [nI_clamp (n := 8 * t + i) (by omega)]
    refine br_c (fun z => ?_) (fun z => ?_)
    · rw [if_pos z, ← Nat.add_assoc] at hp
      exact nm_r (nI_1 c) (nm_r (nI_1 (8 * t + i)) (ih (i + 1) (c + 1) (by omega) hp))
    · rw [if_neg z, Nat.zero_add] at hp
      exact nm_r (nI_1 (8 * t + i)) (ih (i + 1) c (by omega) hp)
theorem ys_aliveBehind (ht : t < 4) (hc : cc t = nI cnt) (h8 : cnt ≤ 8) (hn : n ≤ 56) (hx : yn = nI n) (hp : post (nI (ss_ng cg (8 * t) cnt + (ss_L (ss_at R F T N) 0 n).countP (ss_bh o s cr t cnt)))) : wpY_aliveBehind post (yn, yc, yr, yf, R, F, T, N, o, s, cc, cr, ci, cg, cn, yk, yl, ym, sr, si, ke) (nI t) :=
  nm_r (ss_8j t) ⟨cnt + 1, ys_ab_7 ht hc h8 hn hx cnt 0 0 (by omega) (by rw [Nat.zero_add]; exact hp)⟩
variable {ps : Int32 → SY → Prop}
theorem ys_made_loop (ht : t < 4) (hc : cc t = nI cnt) (h8 : cnt ≤ 8) (hn : n ≤ 56) (hx : yn = nI n) {M : Nat} (hM : M ≤ 8)
    (h0 : M = 0 → wY_commit_81 ps (nI t) (nI M) yn yc yr yf R F T N o s cc cr ci cg cn yk yl ym sr si ke)
    (h1 : 0 < M → ss_cf (s t) cr ci (ss_L (ss_at R F T N) 0 n) (8 * t) cnt = true → ps (-2) (yn, yc, yr, yf, R, F, T, N, upd o t 0, s, cc, cr, ci, cg, cn, yk, yl, ym, sr, si, ke))
    (h2 : 0 < M → ss_cf (s t) cr ci (ss_L (ss_at R F T N) 0 n) (8 * t) cnt = false → wY_commit_81 ps (nI t) (nI M) yn yc yr yf R F T N o s cc cr ci cg cn yk yl ym sr si ke) :
    ∀ d i c, i + d = cnt → c + ss_md ci cg (8 * t + i) d = M → wY_commit_17 ps (nI t) yn yc yr yf R F T N o s cc cr ci cg cn yk yl ym sr si ke (d + 1) (nI c) (nI (8 * t + i)) := by
  intro d
  have e8 : 8 * nI t + cc (nI t).toNatClampNeg = nI (8 * t + cnt) := by rw [nI_clamp (by omega), hc, ss_8i]
  have hvt : vp_in (nI t) 4 := vp_in_nI ht (by decide)
  induction d with
  | zero =>
    intro i c hi hp
    rw [ss_md, Nat.add_zero] at hp
    subst hp
    refine ⟨hvt, br_t (by rw [e8]; exact nI_le (by omega) (by omega)) ?_⟩
    by_cases z : c = 0
    · exact br_t (nI_le (b := 0) (by omega) (by decide)) (h0 z)
    · refine br_f (nI_ge (a := 0) (by omega) (by omega)) (ys_conflicts ht hc h8 hn hx ?_)
      cases hb : ss_cf (s t) cr ci (ss_L (ss_at R F T N) 0 n) (8 * t) cnt with
      | true => exact br_f ss_10 ⟨hvt, nm_r (e' := upd o t 0) (by rw [nI_clamp (by omega)]; rfl) (h1 (by omega) hb)⟩
      | false => exact br_t rfl (h2 (by omega) hb)
  | succ d ih =>
    intro i c hi hp
    rw [ss_md] at hp
    have hv : vp_in (nI (8 * t + i)) 32 := vp_in_nI (by omega) (by decide)
    refine ⟨hvt, br_f (by rw [e8]; exact nI_ge (by omega) (by omega)) ⟨hv, ?_⟩⟩
    rw [nI_clamp (n := 8 * t + i) (by omega)]
    refine br_c (fun z => ?_) (fun z => ⟨hv, br_c (fun z2 => ?_) (fun z2 => ?_)⟩)
    · rw [if_pos (Or.inl z), ← Nat.add_assoc] at hp
      exact nm_r (nI_1 c) (nm_r (nI_1 (8 * t + i)) (ih (i + 1) (c + 1) (by omega) hp))
    · rw [if_pos (Or.inr z2), ← Nat.add_assoc] at hp
      exact nm_r (nI_1 c) (nm_r (nI_1 (8 * t + i)) (ih (i + 1) (c + 1) (by omega) hp))
    · rw [if_neg (fun q => q.elim z z2), Nat.zero_add] at hp
      exact nm_r (nI_1 (8 * t + i)) (ih (i + 1) c (by omega) hp)
theorem ys_end_loop (ht : t < 4) (hc : cc t = nI cnt) (h8 : cnt ≤ 8) (hn : n ≤ 56) (hx : yn = nI n) : ∀ (d i : Nat) (T : Nat → Int32), i + d = n → (∀ T' : Nat → Int32, (∀ j, j < i → T' j = T j) → (∀ j, i ≤ j → j < n → ss_at R F T' N j = ss_en yc cr t cnt (ss_at R F T N j)) → ∃ n181 : Nat, wY_commit_181 ps (nI t) yc yr yf n181 (nI (8 * t)) yn R F T' N o s cc cr ci cg cn yk yl ym sr si ke) → wY_commit_127 ps (nI t) yn yc yr yf (d + 1) (nI i) R F T N o s cc cr ci cg cn yk yl ym sr si ke := by
  intro d
  induction d with
  | zero =>
    intro i T hi hp
    exact br_t (by rw [hx]; exact nI_le (by omega) (by omega)) (nm_r (ss_8j t) (hp T (fun _ _ => rfl) (fun j h1 h2 => by omega)))
  | succ d ih =>
    intro i T hi hp
    have hv : vp_in (nI i) 56 := vp_in_nI (by omega) (by decide)
    have g0 : ss_en yc cr t cnt (ss_at R F T N i) = ss_at R F T N i → wY_commit_127 ps (nI t) yn yc yr yf (d + 1) (nI (i + 1)) R F T N o s cc cr ci cg cn yk yl ym sr si ke := by
      intro h
      refine ih (i + 1) T (by omega) (fun T' h1 h2 => hp T' (fun j hj => h1 j (by omega)) (fun j hj1 hj2 => ?_))
      by_cases e : j = i
      · subst e; rw [h]; exact ss_at_ext rfl rfl (h1 j (by omega)) ⟨rfl, rfl, rfl⟩
      · exact h2 j (by omega) hj2
    refine br_f (by rw [hx]; exact nI_ge (by omega) (by omega)) ⟨hv, ?_⟩
    rw [nI_clamp (n := i) (by omega)]
    refine br_c (fun z => ⟨hv, ys_changeOf ht hc h8 (br_c (fun z2 => nm_r (nI_1 i) (g0 ?_)) (fun z2 => ⟨hv, nm_e (nm_r (nI_1 i) (ih (i + 1) (upd T i yc) (by omega) (fun T' h1 h2 => hp T' (fun j hj => ?_) (fun j hj1 hj2 => ?_))))⟩))⟩) (fun z => nm_r (nI_1 i) (g0 ?_))
    · unfold ss_en
      rw [if_neg]
      intro q
      have q2 : ss_in cr (R i) (8 * t) cnt = true := q.2
      rw [(ss_fc_neg (by omega)).mp z2] at q2; exact nomatch q2
    · rw [h1 j (by omega), ss_un (by omega)]
    · by_cases e : j = i
      · subst e
        have z3 : ss_in cr (R j) (8 * t) cnt = true := by
          rw [ss_fc_neg (by omega)] at z2; exact Bool.of_not_eq_false z2
        unfold ss_en
        rw [if_pos ⟨z, z3⟩]
        unfold ss_at
        rw [h1 j (by omega), ss_us]
      · rw [h2 j (by omega) hj2]
        rw [show ss_at R F (upd T i yc) N j = ss_at R F T N j from ss_at_ext rfl rfl (ss_un e) ⟨rfl, rfl, rfl⟩]
    · unfold ss_en
      rw [if_neg]
      intro q
      exact z q.1
theorem ys_add_loop (ht : t < 4) (hc : cc t = nI cnt) (h8 : cnt ≤ 8) : ∀ (d i m : Nat) (R F T N : Nat → Int32), i + d = cnt → m + d ≤ 56 → (∀ (m' : Nat) (R' F' T' N' : Nat → Int32), ss_L (ss_at R' F' T' N') 0 m' = ss_L (ss_at R F T N) 0 m ++ ss_nw yc cr cn cg (8 * t + i) d → ps 0 (nI m', yc, yr, yf, R', F', T', N', o, s, cc, cr, ci, cg, cn, yk, yl, ym, sr, si, ke)) → wY_commit_181 ps (nI t) yc yr yf (d + 1) (nI (8 * t + i)) (nI m) R F T N o s cc cr ci cg cn yk yl ym sr si ke := by
  intro d
  have e8 : 8 * nI t + cc (nI t).toNatClampNeg = nI (8 * t + cnt) := by rw [nI_clamp (by omega), hc, ss_8i]
  have hvt : vp_in (nI t) 4 := vp_in_nI ht (by decide)
  induction d with
  | zero =>
    intro i m R F T N hi hm hp
    exact ⟨hvt, br_t (by rw [e8]; exact nI_le (by omega) (by omega)) (hp m R F T N (by rw [ss_nw, List.append_nil]))⟩
  | succ d ih =>
    intro i m R F T N hi hm hp
    have hv : vp_in (nI (8 * t + i)) 32 := vp_in_nI (by omega) (by decide)
    have hvm : vp_in (nI m) 56 := vp_in_nI (by omega) (by decide)
    have hcm : (nI m).toNatClampNeg = m := nI_clamp (by omega)
    refine ⟨hvt, br_f (by rw [e8]; exact nI_ge (by omega) (by omega)) ⟨hv, ?_⟩⟩
    rw [nI_clamp (n := 8 * t + i) (by omega)]
    refine br_c (fun z => ?_) (fun z => ?_)
    · refine ⟨hv, hvm, nm_r (e' := upd R m (cr (8 * t + i))) (by rw [hcm]) ⟨hvm, nm_r (e' := upd F m yc) (by rw [hcm]) ⟨hvm, nm_r (e' := upd T m 2147483647) (by rw [hcm]) ?_⟩⟩⟩
      have hN := ss_nv_at (R := R) (F := F) (T := T) (N := N) (cr := cr) (cn := cn) (m := m) (j := 8 * t + i) (c := yc) rfl rfl rfl rfl
      have hq := ih (i + 1) (m + 1) _ _ _ _ (by omega) (by omega) (fun m' R' F' T' N' he => hp m' R' F' T' N' (by
        rw [he, ss_nw, if_pos z, ss_Lsnoc, Nat.zero_add, hN.1, List.append_assoc, List.singleton_append]
        rw [ss_Lcon (W := ss_at R F T N) m 0 (fun j _ hj => hN.2 j (by omega))]
        rfl))
      exact ⟨4, br_f (by decide) ⟨by rw [ss_z30 (8 * t + i)]; exact vp_in_nI (by omega) (by decide), by rw [ss_z30 m]; exact vp_in_nI (by omega) (by decide), nm_r (e' := upd N (3 * m) (cn (3 * (8 * t + i)))) (by rw [ss_z30 m, ss_z30 (8 * t + i), nI_clamp (n := 3 * m) (by omega), nI_clamp (n := 3 * (8 * t + i)) (by omega)]) (nm_r (e' := 1) (by decide) (br_f (by decide) ⟨by rw [ss_z31 (8 * t + i)]; exact vp_in_nI (by omega) (by decide), by rw [ss_z31 m]; exact vp_in_nI (by omega) (by decide), nm_r (e' := upd (upd N (3 * m) (cn (3 * (8 * t + i)))) (3 * m + 1) (cn (3 * (8 * t + i) + 1))) (by rw [ss_z31 m, ss_z31 (8 * t + i), nI_clamp (n := 3 * m + 1) (by omega), nI_clamp (n := 3 * (8 * t + i) + 1) (by omega)]) (nm_r (e' := 2) (by decide) (br_f (by decide) ⟨by rw [ss_z32 (8 * t + i)]; exact vp_in_nI (by omega) (by decide), by rw [ss_z32 m]; exact vp_in_nI (by omega) (by decide), nm_r (e' := upd (upd (upd N (3 * m) (cn (3 * (8 * t + i)))) (3 * m + 1) (cn (3 * (8 * t + i) + 1))) (3 * m + 2) (cn (3 * (8 * t + i) + 2))) (by rw [ss_z32 m, ss_z32 (8 * t + i), nI_clamp (n := 3 * m + 2) (by omega), nI_clamp (n := 3 * (8 * t + i) + 2) (by omega)]) (nm_r (e' := 3) (by decide) (br_t (by decide) (nm_r (nI_1 m) (nm_r (nI_1 (8 * t + i)) hq))))⟩))⟩))⟩⟩
    · refine nm_r (nI_1 (8 * t + i)) (ih (i + 1) m R F T N (by omega) (by omega) (fun m' R' F' T' N' he => hp m' R' F' T' N' ?_))
      rw [he, ss_nw, if_neg z]
      rfl
theorem ys_finish {c : Nat} (ht : t < 4) (hc : cc t = nI cnt) (h8 : cnt ≤ 8) (hn : n ≤ 48) (hm : ((ss_L (ss_at R F T N) 0 n).filter (ss_lv (nI c) (upd o t 0) s)).length ≤ 40) {M : Int32} (hM : ¬ M = 0)
    (hp : ∀ (m' : Nat) (R' F' T' N' : Nat → Int32), ss_L (ss_at R' F' T' N') 0 m' = ((ss_L (ss_at R F T N) 0 n).filter (ss_lv (nI c) (upd o t 0) s)).map (ss_en (nI (c + 1)) cr t cnt) ++ ss_nw (nI (c + 1)) cr cn cg (8 * t) cnt → ps 0 (nI m', nI (c + 1), yr, yf, R', F', T', N', upd o t 0, s, cc, cr, ci, cg, cn, yk, yl, ym, sr, si, ke)) :
    wY_commit_98 ps (nI t) M (nI n) (nI c) yr yf R F T N o s cc cr ci cg cn yk yl ym sr si ke := by
  refine ⟨vp_in_nI ht (by decide), nm_r (e' := upd o t 0) (by rw [nI_clamp (by omega)]; rfl) (br_f hM (ys_forget (by omega) (fun m R1 F1 T1 N1 hmn he => ?_)))⟩
  have hlen : m ≤ 40 := by rw [← he, ss_Llen] at hm; exact hm
  refine nm_r (nI_1 c) ⟨m + 1, ys_end_loop ht hc h8 (by omega) rfl m 0 T1 (by omega) (fun T2 _ h2 => ?_)⟩
  refine ⟨cnt + 1, ys_add_loop ht hc h8 cnt 0 m R1 F1 T2 N1 (by omega) (by omega) (fun m' R' F' T' N' he2 => hp m' R' F' T' N' ?_)⟩
  rw [he2, ← he, ss_Lmap]
  rw [ss_Lcon (V := ss_at R1 F1 T2 N1) m 0 (fun j h1 h3 => h2 j h1 (by omega))]
  rfl
end
