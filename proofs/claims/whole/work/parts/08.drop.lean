theorem ss_cpy {N : Nat → Int32} {i k : Nat} {N' : Nat → Int32} (h : N' = upd (upd (upd N (3 * k) (N (3 * i))) (3 * k + 1) (upd N (3 * k) (N (3 * i)) (3 * i + 1))) (3 * k + 2) (upd (upd N (3 * k) (N (3 * i))) (3 * k + 1) (upd N (3 * k) (N (3 * i)) (3 * i + 1)) (3 * i + 2))) :
    N' (3 * k) = N (3 * i) ∧ N' (3 * k + 1) = N (3 * i + 1) ∧ N' (3 * k + 2) = N (3 * i + 2) ∧ (∀ j, j ≠ k → N' (3 * j) = N (3 * j) ∧ N' (3 * j + 1) = N (3 * j + 1) ∧ N' (3 * j + 2) = N (3 * j + 2)) := by
  subst h
  refine ⟨?_, ?_, ?_, fun j hj => ⟨?_, ?_, ?_⟩⟩
  · rw [ss_un (by omega), ss_un (by omega), ss_us]
  · rw [ss_un (by omega), ss_us, ss_un (by omega)]
  · rw [ss_us, ss_un (by omega), ss_un (by omega)]
  · rw [ss_un (by omega), ss_un (by omega), ss_un (by omega)]
  · rw [ss_un (by omega), ss_un (by omega), ss_un (by omega)]
  · rw [ss_un (by omega), ss_un (by omega), ss_un (by omega)]
theorem ss_at_ext {R F T N R' F' T' N' : Nat → Int32} {i j : Nat} (h1 : R' j = R i) (h2 : F' j = F i) (h3 : T' j = T i) (h4 : N' (3 * j) = N (3 * i) ∧ N' (3 * j + 1) = N (3 * i + 1) ∧ N' (3 * j + 2) = N (3 * i + 2)) : ss_at R' F' T' N' j = ss_at R F T N i := by
  unfold ss_at
  rw [h1, h2, h3, h4.1, h4.2.1, h4.2.2]
section
variable {xc xr xn xf : Int32} {R F T N o s cc cr ci cg cn ws wk wl wm fr fi : Nat → Int32}
variable {post : SX → Prop}
theorem xs_moveVersion {i k : Nat} (hi : i < 40) (hk : k < 40) (hp : ∀ R' F' T' N' : Nat → Int32, ss_at R' F' T' N' k = ss_at R F T N i → (∀ j, j ≠ k → ss_at R' F' T' N' j = ss_at R F T N j) → post (xc, xr, xn, xf, R', F', T', N', o, s, cc, cr, ci, cg, cn, ws, wk, wl, wm, fr, fi)) : wpX_moveVersion post (xc, xr, xn, xf, R, F, T, N, o, s, cc, cr, ci, cg, cn, ws, wk, wl, wm, fr, fi) (nI i) (nI k) := by
  have hvi : vp_in (nI i) 40 := vp_in_nI hi (by decide)
  have hvk : vp_in (nI k) 40 := vp_in_nI hk (by decide)
  have hci : (nI i).toNatClampNeg = i := nI_clamp (by omega)
  have hck : (nI k).toNatClampNeg = k := nI_clamp (by omega)
  refine ⟨hvi, hvk, nm_r (e' := upd R k (R i)) (by rw [hci, hck]) ⟨hvi, hvk, nm_r (e' := upd F k (F i)) (by rw [hci, hck]) ⟨hvi, hvk, nm_r (e' := upd T k (T i)) (by rw [hci, hck]) ?_⟩⟩⟩
  have hN := ss_cpy (N := N) (i := i) (k := k) rfl
  have hq := hp (upd R k (R i)) (upd F k (F i)) (upd T k (T i)) _ (ss_at_ext ss_us ss_us ss_us ⟨hN.1, hN.2.1, hN.2.2.1⟩) (fun j hj => ss_at_ext (ss_un hj) (ss_un hj) (ss_un hj) (hN.2.2.2 j hj))
  exact ⟨4, br_f (by decide) ⟨by rw [ss_k30 i]; exact vp_in_nI (by omega) (by decide), by rw [ss_k30 k]; exact vp_in_nI (by omega) (by decide), nm_r (e' := upd N (3 * k) (N (3 * i))) (by rw [ss_k30 k, ss_k30 i, nI_clamp (n := 3 * k) (by omega), nI_clamp (n := 3 * i) (by omega)]) (nm_r (e' := 1) (by decide) (br_f (by decide) ⟨by rw [ss_k31 i]; exact vp_in_nI (by omega) (by decide), by rw [ss_k31 k]; exact vp_in_nI (by omega) (by decide), nm_r (e' := upd (upd N (3 * k) (N (3 * i))) (3 * k + 1) ((upd N (3 * k) (N (3 * i))) (3 * i + 1))) (by rw [ss_k31 k, ss_k31 i, nI_clamp (n := 3 * k + 1) (by omega), nI_clamp (n := 3 * i + 1) (by omega)]) (nm_r (e' := 2) (by decide) (br_f (by decide) ⟨by rw [ss_k32 i]; exact vp_in_nI (by omega) (by decide), by rw [ss_k32 k]; exact vp_in_nI (by omega) (by decide), nm_r (e' := upd (upd (upd N (3 * k) (N (3 * i))) (3 * k + 1) ((upd N (3 * k) (N (3 * i))) (3 * i + 1))) (3 * k + 2) ((upd (upd N (3 * k) (N (3 * i))) (3 * k + 1) ((upd N (3 * k) (N (3 * i))) (3 * i + 1))) (3 * i + 2))) (by rw [ss_k32 k, ss_k32 i, nI_clamp (n := 3 * k + 2) (by omega), nI_clamp (n := 3 * i + 2) (by omega)]) (nm_r (e' := 3) (by decide) (br_t (by decide) hq))⟩))⟩))⟩⟩
theorem xs_drop_loop {n : Nat} (hn : n ≤ 40) : ∀ (d i k : Nat) (R F T N : Nat → Int32), k ≤ i → i + d = n → (∀ (m : Nat) (R' F' T' N' : Nat → Int32), m ≤ n → ss_L (ss_at R' F' T' N') 0 m = ss_L (ss_at R F T N) 0 k ++ (ss_L (ss_at R F T N) i d).filter (ss_lv xc o s) → post (xc, xr, nI m, xf, R', F', T', N', o, s, cc, cr, ci, cg, cn, ws, wk, wl, wm, fr, fi)) → wX_dropDeadVersions_4 post (d + 1) (nI k) (nI i) xc xr (nI n) xf R F T N o s cc cr ci cg cn ws wk wl wm fr fi := by
  intro d
  induction d with
  | zero =>
    intro i k R F T N hki hi hp
    exact br_t (nI_le (by omega) (by omega)) (hp k R F T N (by omega) (by rw [ss_L, List.filter_nil, List.append_nil]))
  | succ d ih =>
    intro i k R F T N hki hi hp
    refine br_f (nI_ge (by omega) (by omega)) (xs_isLive (by omega) ?_)
    cases hb : ss_lv xc o s (ss_at R F T N i) with
    | false =>
      refine br_t rfl (nm_r (nI_1 i) (ih (i + 1) k R F T N (by omega) (by omega) (fun m R' F' T' N' hm he => hp m R' F' T' N' hm ?_)))
      rw [he, ss_L, List.filter_cons_of_neg (by rw [hb]; decide)]
    | true =>
      refine br_f ss_10 (xs_moveVersion (by omega) (by omega) (fun R1 F1 T1 N1 h1 h2 => ?_))
      refine nm_r (nI_1 k) (nm_r (nI_1 i) (ih (i + 1) (k + 1) R1 F1 T1 N1 (by omega) (by omega) (fun m R' F' T' N' hm he => hp m R' F' T' N' hm ?_)))
      rw [he, ss_Lsnoc, Nat.zero_add, h1, List.append_assoc, List.singleton_append, ss_L, List.filter_cons_of_pos hb]
      rw [ss_Lcon (V := ss_at R1 F1 T1 N1) (W := ss_at R F T N) k 0 (fun j _ hj => h2 j (by omega))]
      rw [ss_Lcon (V := ss_at R1 F1 T1 N1) (W := ss_at R F T N) d (i + 1) (fun j hj _ => h2 j (by omega))]
theorem xs_dropDead {n : Nat} (hn : n ≤ 40) (hp : ∀ (m : Nat) (R' F' T' N' : Nat → Int32), m ≤ n → ss_L (ss_at R' F' T' N') 0 m = (ss_L (ss_at R F T N) 0 n).filter (ss_lv xc o s) → post (xc, xr, nI m, xf, R', F', T', N', o, s, cc, cr, ci, cg, cn, ws, wk, wl, wm, fr, fi)) : wpX_dropDeadVersions post (xc, xr, nI n, xf, R, F, T, N, o, s, cc, cr, ci, cg, cn, ws, wk, wl, wm, fr, fi) :=
  ⟨n + 1, xs_drop_loop hn n 0 0 R F T N (by omega) (by omega) (fun m R' F' T' N' hm he => hp m R' F' T' N' hm he)⟩
end
section
variable {yn yc yr yf : Int32} {R F T N o s cc cr ci cg cn yk yl ym sr si ke : Nat → Int32}
variable {post : SY → Prop}
theorem ys_copy {i k : Nat} (hi : i < 56) (hk : k < 56) (hp : ∀ R' F' T' N' : Nat → Int32, ss_at R' F' T' N' k = ss_at R F T N i → (∀ j, j ≠ k → ss_at R' F' T' N' j = ss_at R F T N j) → post (yn, yc, yr, yf, R', F', T', N', o, s, cc, cr, ci, cg, cn, yk, yl, ym, sr, si, ke)) : wpY_copy post (yn, yc, yr, yf, R, F, T, N, o, s, cc, cr, ci, cg, cn, yk, yl, ym, sr, si, ke) (nI i) (nI k) := by
  have hvi : vp_in (nI i) 56 := vp_in_nI hi (by decide)
  have hvk : vp_in (nI k) 56 := vp_in_nI hk (by decide)
  have hci : (nI i).toNatClampNeg = i := nI_clamp (by omega)
  have hck : (nI k).toNatClampNeg = k := nI_clamp (by omega)
  refine ⟨hvi, hvk, nm_r (e' := upd R k (R i)) (by rw [hci, hck]) ⟨hvi, hvk, nm_r (e' := upd F k (F i)) (by rw [hci, hck]) ⟨hvi, hvk, nm_r (e' := upd T k (T i)) (by rw [hci, hck]) ?_⟩⟩⟩
  have hN := ss_cpy (N := N) (i := i) (k := k) rfl
  have hq := hp (upd R k (R i)) (upd F k (F i)) (upd T k (T i)) _ (ss_at_ext ss_us ss_us ss_us ⟨hN.1, hN.2.1, hN.2.2.1⟩) (fun j hj => ss_at_ext (ss_un hj) (ss_un hj) (ss_un hj) (hN.2.2.2 j hj))
  exact ⟨4, br_f (by decide) ⟨by rw [ss_z30 i]; exact vp_in_nI (by omega) (by decide), by rw [ss_z30 k]; exact vp_in_nI (by omega) (by decide), nm_r (e' := upd N (3 * k) (N (3 * i))) (by rw [ss_z30 k, ss_z30 i, nI_clamp (n := 3 * k) (by omega), nI_clamp (n := 3 * i) (by omega)]) (nm_r (e' := 1) (by decide) (br_f (by decide) ⟨by rw [ss_z31 i]; exact vp_in_nI (by omega) (by decide), by rw [ss_z31 k]; exact vp_in_nI (by omega) (by decide), nm_r (e' := upd (upd N (3 * k) (N (3 * i))) (3 * k + 1) ((upd N (3 * k) (N (3 * i))) (3 * i + 1))) (by rw [ss_z31 k, ss_z31 i, nI_clamp (n := 3 * k + 1) (by omega), nI_clamp (n := 3 * i + 1) (by omega)]) (nm_r (e' := 2) (by decide) (br_f (by decide) ⟨by rw [ss_z32 i]; exact vp_in_nI (by omega) (by decide), by rw [ss_z32 k]; exact vp_in_nI (by omega) (by decide), nm_r (e' := upd (upd (upd N (3 * k) (N (3 * i))) (3 * k + 1) ((upd N (3 * k) (N (3 * i))) (3 * i + 1))) (3 * k + 2) ((upd (upd N (3 * k) (N (3 * i))) (3 * k + 1) ((upd N (3 * k) (N (3 * i))) (3 * i + 1))) (3 * i + 2))) (by rw [ss_z32 k, ss_z32 i, nI_clamp (n := 3 * k + 2) (by omega), nI_clamp (n := 3 * i + 2) (by omega)]) (nm_r (e' := 3) (by decide) (br_t (by decide) hq))⟩))⟩))⟩⟩
theorem ys_forget_loop {n : Nat} (hn : n ≤ 56) : ∀ (d i k : Nat) (R F T N : Nat → Int32), k ≤ i → i + d = n → (∀ (m : Nat) (R' F' T' N' : Nat → Int32), m ≤ n → ss_L (ss_at R' F' T' N') 0 m = ss_L (ss_at R F T N) 0 k ++ (ss_L (ss_at R F T N) i d).filter (ss_lv yc o s) → post (nI m, yc, yr, yf, R', F', T', N', o, s, cc, cr, ci, cg, cn, yk, yl, ym, sr, si, ke)) → wY_forget_4 post (d + 1) (nI k) (nI i) (nI n) yc yr yf R F T N o s cc cr ci cg cn yk yl ym sr si ke := by
  intro d
  induction d with
  | zero =>
    intro i k R F T N hki hi hp
    exact br_t (nI_le (by omega) (by omega)) (hp k R F T N (by omega) (by rw [ss_L, List.filter_nil, List.append_nil]))
  | succ d ih =>
    intro i k R F T N hki hi hp
    refine br_f (nI_ge (by omega) (by omega)) (ys_live (by omega) ?_)
    cases hb : ss_lv yc o s (ss_at R F T N i) with
    | false =>
      refine br_t rfl (nm_r (nI_1 i) (ih (i + 1) k R F T N (by omega) (by omega) (fun m R' F' T' N' hm he => hp m R' F' T' N' hm ?_)))
      rw [he, ss_L, List.filter_cons_of_neg (by rw [hb]; decide)]
    | true =>
      refine br_f ss_10 (nm_r (nI_1 k) (ys_copy (by omega) (by omega) (fun R1 F1 T1 N1 h1 h2 => ?_)))
      refine nm_r (nI_1 i) (ih (i + 1) (k + 1) R1 F1 T1 N1 (by omega) (by omega) (fun m R' F' T' N' hm he => hp m R' F' T' N' hm ?_))
      rw [he, ss_Lsnoc, Nat.zero_add, h1, List.append_assoc, List.singleton_append, ss_L, List.filter_cons_of_pos hb]
      rw [ss_Lcon (V := ss_at R1 F1 T1 N1) (W := ss_at R F T N) k 0 (fun j _ hj => h2 j (by omega))]
      rw [ss_Lcon (V := ss_at R1 F1 T1 N1) (W := ss_at R F T N) d (i + 1) (fun j hj _ => h2 j (by omega))]
theorem ys_forget {n : Nat} (hn : n ≤ 56) (hp : ∀ (m : Nat) (R' F' T' N' : Nat → Int32), m ≤ n → ss_L (ss_at R' F' T' N') 0 m = (ss_L (ss_at R F T N) 0 n).filter (ss_lv yc o s) → post (nI m, yc, yr, yf, R', F', T', N', o, s, cc, cr, ci, cg, cn, yk, yl, ym, sr, si, ke)) : wpY_forget post (nI n, yc, yr, yf, R, F, T, N, o, s, cc, cr, ci, cg, cn, yk, yl, ym, sr, si, ke) :=
  ⟨n + 1, ys_forget_loop hn n 0 0 R F T N (by omega) (by omega) (fun m R' F' T' N' hm he => hp m R' F' T' N' hm he)⟩
end
theorem i_vc_pack {k : Nat} {u : SX} {v : SY} (I : i_Rel k u v) (hk : k + 6 ≤ 3072) : wpX_pack (fun u' => wpY_pack (fun v' => i_Rel (k + 6) u' v') v) u := by
  obtain ⟨ck, rc, nx, ny, xf, yf, R, F, T, N, VR, VF, VT, VN, o, s, cc, cr, ci, cg, cn, ws, wk, wl, wm, fr, fi, yk, yl, ym, sr, si, ke, rfl, rfl, h1, h2, h3, h4⟩ := I
  unfold wpX_pack wpY_pack; dsimp only
  refine xs_dropDead h1 (fun m R' F' T' N' hm he => ?_)
  have h5 := ss_I_up (ss_I_pack h3)
  rw [← he] at h5
  exact ss_mk (by omega) h2 h5 h4
