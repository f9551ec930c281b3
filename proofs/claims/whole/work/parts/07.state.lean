theorem ss_hd_live {c : Int32} {o s : Nat → Int32} (v : ss_V) (h : ss_hd v c = true) : ss_lv c o s v = true := ss_lv_iff.mpr (Or.inl h)
theorem i_vc_state {k : Nat} {u : SX} {v : SY} (I : i_Rel k u v) (hk : k + 6 ≤ 3072) (v1 : Int32) : wpX_state (fun r => wpY_state (fun r' => r' = r ∧ i_Rel (k + 6) u v) v v1) u v1 := by
  have hR := i_up I
  obtain ⟨ck, rc, nx, ny, xf, yf, R, F, T, N, VR, VF, VT, VN, o, s, cc, cr, ci, cg, cn, ws, wk, wl, wm, fr, fi, yk, yl, ym, sr, si, ke, rfl, rfl, h1, h2, h3, h4⟩ := I
  by_cases e0 : v1 = 0
  · subst e0
    exact br_f (by decide) (br_f (by decide) (br_t rfl (br_t rfl ⟨rfl, hR⟩)))
  by_cases e1 : v1 = 1
  · subst e1
    exact br_f (by decide) (br_f (by decide) (br_f e0 (br_t rfl (br_f e0 (br_t rfl ⟨rfl, hR⟩)))))
  by_cases e2 : v1 = 2
  · subst e2
    refine br_f (by decide) (br_f (by decide) (br_f e0 (br_f e1 (br_t rfl (xs_countLive h1 rfl ?_)))))
    refine br_f e0 (br_f e1 (br_t rfl (ys_alive (by omega) rfl ⟨?_, hR⟩)))
    rw [ss_cnt h3.2.2.1]
  by_cases e3 : v1 = 3
  · subst e3
    refine br_f (by decide) (br_f (by decide) (br_f e0 (br_f e1 (br_f e2 (br_t rfl (xs_countOpen ?_))))))
    refine br_f e0 (br_f e1 (br_f e2 (br_t rfl ⟨5, ys_open_loop 4 0 0 rfl (br_f (by decide) (br_t rfl ⟨?_, hR⟩))⟩)))
    rw [Nat.zero_add]
  by_cases e4 : v1 = 4
  · subst e4
    refine br_f (by decide) (br_f (by decide) (br_f e0 (br_f e1 (br_f e2 (br_f e3 (br_t rfl (xs_countThere h1 rfl ?_)))))))
    refine br_f e0 (br_f e1 (br_f e2 (br_f e3 (br_t rfl ⟨ny + 1, ys_there_loop (by omega) rfl ny 0 0 (by omega) (br_f e3 (br_t rfl ⟨?_, hR⟩))⟩))))
    rw [Nat.zero_add, ss_cnt (ss_flt' h3.2.2.1 ss_hd_live)]
  · have hY : ∀ r : Int32, r = -1 → wpY_state (fun r' => r' = r ∧ i_Rel (k + 6) (nI ck, nI rc, nI nx, xf, R, F, T, N, o, s, cc, cr, ci, cg, cn, ws, wk, wl, wm, fr, fi) (nI ny, nI ck, nI rc, yf, VR, VF, VT, VN, o, s, cc, cr, ci, cg, cn, yk, yl, ym, sr, si, ke)) (nI ny, nI ck, nI rc, yf, VR, VF, VT, VN, o, s, cc, cr, ci, cg, cn, yk, yl, ym, sr, si, ke) v1 :=
      fun r hr => br_f e0 (br_f e1 (br_f e2 (br_f e3 (br_f e4 (br_f e3 (br_f e4 ⟨hr.symm, hR⟩))))))
    exact br_c (fun _ => hY _ rfl) (fun _ => br_c (fun _ => hY _ rfl) (fun _ => br_f e0 (br_f e1 (br_f e2 (br_f e3 (br_f e4 trivial))))))
theorem i_vc_cell {k : Nat} {u : SX} {v : SY} (I : i_Rel k u v) (hk : k + 6 ≤ 3072) (v1 : Int32) (v2 : Int32) (v3 : Int32) : wpX_cell (fun r => wpY_cell (fun r' => r' = r ∧ i_Rel (k + 6) u v) v v1 v2 v3) u v1 v2 v3 := by
  have hR := i_up I
  obtain ⟨ck, rc, nx, ny, xf, yf, R, F, T, N, VR, VF, VT, VN, o, s, cc, cr, ci, cg, cn, ws, wk, wl, wm, fr, fi, yk, yl, ym, sr, si, ke, rfl, rfl, h1, h2, h3, h4⟩ := I
  unfold wpX_cell wpY_cell; dsimp only
  by_cases ha : v1 = -1 ∨ ss_op o v1
  · refine xs_canAsk_t ha (br_f ss_10 ?_)
    by_cases hcol : ss_am v3 3
    · refine xs_isColumn_t hcol (br_f ss_10 ?_)
      have hcol' := hcol
      obtain ⟨c, hc3, rfl⟩ := hcol'
      rcases ha with rfl | ho
      · have hw : ss_who (nI ck) s cc (-1) 0 0 (nI ck) := Or.inl ⟨rfl, rfl, rfl, rfl⟩
        refine xs_findChangeW hw ?_
        refine br_t ss_m0 (xs_timeSeen hw ?_)
        have hY : ∀ P : Int64 → Prop, wY_cell_95 P (nI c) (nI ck) v2 (nI ny) (nI ck) (nI rc) yf VR VF VT VN o s cc cr ci cg cn yk yl ym sr si ke → ((-1 : Int32) = -1 → wY_cell_13 P (-1) v2 (nI c) (nI ny) (nI ck) (nI rc) yf VR VF VT VN o s cc cr ci cg cn yk yl ym sr si ke) := by
          intro P hP _
          unfold wY_cell_13
          refine ys_among_t (n := 3) rfl (by decide) hcol (br_f ss_10 (br_f (by decide) ?_))
          unfold wY_cell_40
          exact br_t ss_m0 (br_f (by decide) hP)
        cases hv : (ss_L (ss_at R F T N) 0 nx).find? (ss_fp v2 (nI ck)) with
        | none =>
          refine xs_fv_n h1 rfl hv (br_f (by decide) (br_t rfl (hY _ ?_ rfl)))
          have hfe : (ss_L (ss_at R F T N) 0 nx).find? (ss_fp v2 (nI ck)) = (ss_L (ss_at VR VF VT VN) 0 ny).find? (ss_fp v2 (nI ck)) := ss_fnd (ss_flt' h3.2.2.1 ss_fp_live')
          unfold wY_cell_95
          exact ys_fv_n (by omega) rfl (hfe ▸ hv) (br_f (by decide) ⟨rfl, hR⟩)
        | some v =>
          have hfe : (ss_L (ss_at R F T N) 0 nx).find? (ss_fp v2 (nI ck)) = (ss_L (ss_at VR VF VT VN) 0 ny).find? (ss_fp v2 (nI ck)) := ss_fnd (ss_flt' h3.2.2.1 ss_fp_live')
          refine xs_fv_s h1 rfl hv (fun j hj ej => ?_)
          rw [ss_i3, nI_clamp (n := 3 * j + c) (by omega)]
          refine br_t (nI_pos' (by omega)) ⟨vp_in_nI (by omega) (by decide), br_t rfl (hY _ ?_ rfl)⟩
          unfold wY_cell_95
          refine ys_fv_s (by omega) rfl (hfe ▸ hv) (fun i hi ei => ?_)
          rw [ss_3i, nI_clamp (n := 3 * i + c) (by omega)]
          refine br_t (nI_pos' (by omega)) ⟨vp_in_nI (by omega) (by decide), ?_, hR⟩
          have e : ss_fa VR VN i = ss_fa R N j := by
            have e1 : ss_pr (ss_at VR VF VT VN i) = ss_pr (ss_at R F T N j) := by rw [← ei, ← ej]
            exact e1
          rw [← ss_gt_fa (fr := VR) (fi := VN) hc3, e, ss_gt_fa hc3]
      · have ho' := ho
        obtain ⟨t, ht, rfl, hot⟩ := ho'
        obtain ⟨hcc, h8, _⟩ := h3.2.2.2.2.2.2.1 t ht hot
        have hs : ∃ cnt, cnt = ss_n cc t := ⟨_, rfl⟩
        obtain ⟨cnt, hs⟩ := hs
        rw [← hs] at hcc h8
        have hw : ss_who (nI ck) s cc (nI t) t cnt (s t) := Or.inr ⟨rfl, ht, hcc, h8, rfl⟩
        have hfe : (ss_L (ss_at R F T N) 0 nx).find? (ss_fp v2 (s t)) = (ss_L (ss_at VR VF VT VN) 0 ny).find? (ss_fp v2 (s t)) := ss_fnd (ss_flt' h3.2.2.1 (ss_fp_live ht hot))
        have hY : ∀ P : Int64 → Prop, wY_cell_40 P (nI t) v2 (nI c) (ss_fc cr v2 (8 * t) cnt) (nI ny) (nI ck) (nI rc) yf VR VF VT VN o s cc cr ci cg cn yk yl ym sr si ke → wpY_cell P (nI ny, nI ck, nI rc, yf, VR, VF, VT, VN, o, s, cc, cr, ci, cg, cn, yk, yl, ym, sr, si, ke) (nI t) v2 (nI c) := by
          intro P hP
          refine br_f (ss_nm t (by omega)) (ys_isOpen_t ho (br_f ss_10 ?_))
          unfold wY_cell_13
          exact ys_among_t (n := 3) rfl (by decide) hcol (br_f ss_10 (br_t (nI_pos' (by omega)) (ys_changeOf ht hcc h8 hP)))
        refine xs_findChangeW hw ?_
        rcases ss_row4 cr v2 t cnt (by omega) with ⟨j, hj, _, _, hf⟩ | ⟨hin, hf⟩
        · rw [hf] at hY
          rw [hf, nI_clamp (n := j) (by omega), ss_i3, nI_clamp (n := 3 * j + c) (by omega)]
          refine br_f (nI_pos (by omega)) ⟨vp_in_nI hj (by decide), br_c (fun hg => ⟨vp_in_nI (by omega) (by decide), hY _ ?_⟩) (fun hg => hY _ ?_)⟩
          · unfold wY_cell_40
            rw [nI_clamp (n := j) (by omega), ss_3i, nI_clamp (n := 3 * j + c) (by omega)]
            exact br_f (nI_pos (by omega)) ⟨vp_in_nI hj (by decide), br_t hg ⟨vp_in_nI (by omega) (by decide), rfl, hR⟩⟩
          · unfold wY_cell_40
            rw [nI_clamp (n := j) (by omega)]
            exact br_f (nI_pos (by omega)) ⟨vp_in_nI hj (by decide), br_f hg ⟨rfl, hR⟩⟩
        · rw [hf] at hY
          rw [hf]
          refine br_t ss_m0 (xs_timeSeen hw ?_)
          have hY2 : ∀ P : Int64 → Prop, wY_cell_95 P (nI c) (s t) v2 (nI ny) (nI ck) (nI rc) yf VR VF VT VN o s cc cr ci cg cn yk yl ym sr si ke → wpY_cell P (nI ny, nI ck, nI rc, yf, VR, VF, VT, VN, o, s, cc, cr, ci, cg, cn, yk, yl, ym, sr, si, ke) (nI t) v2 (nI c) := by
            intro P hP
            refine hY P ?_
            unfold wY_cell_40
            rw [nI_clamp (n := t) (by omega)]
            exact br_t ss_m0 (br_t (nI_pos' (by omega)) ⟨vp_in_nI ht (by decide), hP⟩)
          cases hv : (ss_L (ss_at R F T N) 0 nx).find? (ss_fp v2 (s t)) with
          | none =>
            refine xs_fv_n h1 rfl hv (br_f (by decide) (hY2 _ ?_))
            unfold wY_cell_95
            exact ys_fv_n (by omega) rfl (hfe ▸ hv) (br_f (by decide) ⟨rfl, hR⟩)
          | some v =>
            refine xs_fv_s h1 rfl hv (fun j hj ej => ?_)
            rw [ss_i3, nI_clamp (n := 3 * j + c) (by omega)]
            refine br_t (nI_pos' (by omega)) ⟨vp_in_nI (by omega) (by decide), hY2 _ ?_⟩
            unfold wY_cell_95
            refine ys_fv_s (by omega) rfl (hfe ▸ hv) (fun i hi ei => ?_)
            rw [ss_3i, nI_clamp (n := 3 * i + c) (by omega)]
            refine br_t (nI_pos' (by omega)) ⟨vp_in_nI (by omega) (by decide), ?_, hR⟩
            have e : ss_fa VR VN i = ss_fa R N j := by
              have e1 : ss_pr (ss_at VR VF VT VN i) = ss_pr (ss_at R F T N j) := by rw [← ei, ← ej]
              exact e1
            rw [← ss_gt_fa (fr := VR) (fi := VN) hc3, e, ss_gt_fa hc3]
    · refine xs_isColumn_f hcol (br_t rfl ?_)
      have hY : ∀ P : Int64 → Prop, P 10000000000 → wY_cell_13 P v1 v2 v3 (nI ny) (nI ck) (nI rc) yf VR VF VT VN o s cc cr ci cg cn yk yl ym sr si ke := by
        intro P hP
        unfold wY_cell_13
        exact ys_among_f (n := 3) rfl (by decide) hcol (br_t rfl hP)
      refine br_c (fun _ => hY _ ⟨rfl, hR⟩) (fun hne => ?_)
      rcases ha with h | ho
      · exact absurd h hne
      · exact ys_isOpen_t ho (br_f ss_10 (hY _ ⟨rfl, hR⟩))
  · exact xs_canAsk_f ha (br_t rfl (br_f (fun z => ha (Or.inl z)) (ys_isOpen_f (fun z => ha (Or.inr z)) (br_t rfl ⟨rfl, hR⟩))))
