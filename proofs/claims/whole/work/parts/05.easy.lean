theorem ss_mk {k ck rc nx ny : Nat} {xf yf : Int32} {R F T N VR VF VT VN o s cc cr ci cg cn ws wk wl wm fr fi yk yl ym sr si ke : Nat → Int32}
    (h1 : nx ≤ 40) (h2 : ny ≤ 48) (h3 : ss_I k ck rc o s cc cr ci (ss_L (ss_at R F T N) 0 nx) (ss_L (ss_at VR VF VT VN) 0 ny)) (h4 : ss_wr ws wk wl wm yk yl ym) :
    i_Rel k (nI ck, nI rc, nI nx, xf, R, F, T, N, o, s, cc, cr, ci, cg, cn, ws, wk, wl, wm, fr, fi) (nI ny, nI ck, nI rc, yf, VR, VF, VT, VN, o, s, cc, cr, ci, cg, cn, yk, yl, ym, sr, si, ke) :=
  ⟨ck, rc, nx, ny, xf, yf, R, F, T, N, VR, VF, VT, VN, o, s, cc, cr, ci, cg, cn, ws, wk, wl, wm, fr, fi, yk, yl, ym, sr, si, ke, rfl, rfl, h1, h2, h3, h4⟩
theorem i_vc0 : wpX_init (fun u => wpY_init (fun v => i_Rel 0 u v)) := by
  refine nm_e (nm_e ?_)
  refine ss_mk (ck := 0) (rc := 0) (nx := 0) (ny := 0) (by omega) (by omega) ⟨by omega, by omega, rfl, by decide, ?_, ?_, ?_⟩ ?_
  · exact ⟨fun v hv => absurd hv List.not_mem_nil, List.Pairwise.nil, fun v hv => absurd hv List.not_mem_nil⟩
  · exact ⟨fun v hv => absurd hv List.not_mem_nil, List.Pairwise.nil, fun v hv => absurd hv List.not_mem_nil⟩
  · exact ⟨fun t _ h => absurd rfl h, fun t i h => absurd rfl h.2.1, fun t i j h => absurd rfl h.2.1, fun t i u j h => absurd rfl h.2.1, fun t i h => absurd rfl h.2.1⟩
  · intro j hj
    refine ⟨⟨0, by omega, rfl⟩, Or.inl ⟨rfl, ?_⟩⟩
    match j, hj with
    | 0, _ => decide
    | 1, _ => decide
/-- the first that is closed -/
def ss_fo (o : Nat → Int32) : Nat → Nat → Nat
  | i, 0 => i
  | i, d + 1 => if o i = 0 then i else ss_fo o (i + 1) d
section
variable {xc xr xn xf : Int32} {R F T N o s cc cr ci cg cn ws wk wl wm fr fi : Nat → Int32}
variable {post : Int32 → SX → Prop}
theorem xs_begin_loop : ∀ d i, i + d = 4 → (ss_fo o i d = 4 → post (-1) (xc, xr, xn, xf, R, F, T, N, o, s, cc, cr, ci, cg, cn, ws, wk, wl, wm, fr, fi)) → (∀ j, j < 4 → ss_fo o i d = j → o j = 0 → post (nI j) (xc, xr, xn, xf, R, F, T, N, upd o j 1, upd s j xc, upd cc j 0, cr, ci, cg, cn, ws, wk, wl, wm, fr, fi)) → wX_begin_2 post xc xr xn xf R F T N o s cc cr ci cg cn ws wk wl wm fr fi (d + 1) (nI i) := by
  intro d
  induction d with
  | zero => intro i hi h1 h2; exact br_t (nI_le (a := 4) (by omega) (by omega)) (h1 (by rw [ss_fo]; omega))
  | succ d ih =>
    intro i hi h1 h2
    have hc : (nI i).toNatClampNeg = i := nI_clamp (by omega)
    have hv : vp_in (nI i) 4 := vp_in_nI (by omega) (by decide)
    rw [ss_fo] at h1 h2
    refine br_f (nI_ge (b := 4) (by omega) (by decide)) ⟨hv, br_c (fun z => ?_) (fun z => ?_)⟩
    · rw [hc] at z
      rw [if_pos z] at h2
      exact ⟨hv, nm_r (e' := upd o i 1) (by rw [hc]; rfl) ⟨hv, nm_r (e' := upd s i xc) (by rw [hc]) ⟨hv, nm_r (e' := upd cc i 0) (by rw [hc]) (h2 i (by omega) rfl z)⟩⟩⟩
    · rw [hc] at z
      rw [if_neg z] at h1 h2
      exact nm_r (nI_1 i) (ih (i + 1) (by omega) h1 h2)
theorem xs_addChange {row : Int32} {t cnt : Nat} (ht : t < 4) (hc : cc t = nI cnt) (h8 : cnt < 8) (hp : post (nI (8 * t + cnt)) (xc, xr, xn, xf, R, F, T, N, o, s, upd cc t (nI (cnt + 1)), upd cr (8 * t + cnt) row, upd ci (8 * t + cnt) 0, upd cg (8 * t + cnt) 0, cn, ws, wk, wl, wm, fr, fi)) : wpX_addChange post (xc, xr, xn, xf, R, F, T, N, o, s, cc, cr, ci, cg, cn, ws, wk, wl, wm, fr, fi) (nI t) row := by
  have hv : vp_in (nI t) 4 := vp_in_nI ht (by decide)
  have hk : (nI t).toNatClampNeg = t := nI_clamp (by omega)
  have hv2 : vp_in (nI (8 * t + cnt)) 32 := vp_in_nI (by omega) (by decide)
  have hk2 : (nI (8 * t + cnt)).toNatClampNeg = 8 * t + cnt := nI_clamp (by omega)
  exact ⟨hv, nm_r (by rw [hk, hc, ss_i8]) ⟨hv, hv, nm_r (e' := upd cc t (nI (cnt + 1))) (by rw [hk, hc, nI_1]) ⟨hv2, nm_r (by rw [hk2]) ⟨hv2, nm_r (by rw [hk2]; rfl) ⟨hv2, nm_r (by rw [hk2]; rfl) hp⟩⟩⟩⟩⟩
end
section
variable {yn yc yr yf : Int32} {R F T N o s cc cr ci cg cn yk yl ym sr si ke : Nat → Int32}
variable {post : Int32 → SY → Prop}
theorem ys_begin_loop : ∀ d i, i + d = 4 → (ss_fo o i d = 4 → post (-1) (yn, yc, yr, yf, R, F, T, N, o, s, cc, cr, ci, cg, cn, yk, yl, ym, sr, si, ke)) → (∀ j, j < 4 → ss_fo o i d = j → o j = 0 → post (nI j) (yn, yc, yr, yf, R, F, T, N, upd o j 1, upd s j yc, upd cc j 0, cr, ci, cg, cn, yk, yl, ym, sr, si, ke)) → wY_begin_2 post yn yc yr yf R F T N o s cc cr ci cg cn yk yl ym sr si ke (d + 1) (nI i) := by
  intro d
  induction d with
  | zero => intro i hi h1 h2; exact br_t (nI_le (a := 4) (by omega) (by omega)) (h1 (by rw [ss_fo]; omega))
  | succ d ih =>
    intro i hi h1 h2
    have hc : (nI i).toNatClampNeg = i := nI_clamp (by omega)
    have hv : vp_in (nI i) 4 := vp_in_nI (by omega) (by decide)
    rw [ss_fo] at h1 h2
    refine br_f (nI_ge (b := 4) (by omega) (by decide)) ⟨hv, br_c (fun z => ?_) (fun z => ?_)⟩
    · rw [hc] at z
      rw [if_pos z] at h2
      exact ⟨hv, nm_r (e' := upd o i 1) (by rw [hc]; rfl) ⟨hv, nm_r (e' := upd s i yc) (by rw [hc]) ⟨hv, nm_r (e' := upd cc i 0) (by rw [hc]) (h2 i (by omega) rfl z)⟩⟩⟩
    · rw [hc] at z
      rw [if_neg z] at h1 h2
      exact nm_r (nI_1 i) (ih (i + 1) (by omega) h1 h2)
end
theorem i_vc_begin {k : Nat} {u : SX} {v : SY} (I : i_Rel k u v) (hk : k + 6 ≤ 3072) : wpX_begin (fun r u' => wpY_begin (fun r' v' => r' = r ∧ i_Rel (k + 6) u' v') v) u := by
  obtain ⟨ck, rc, nx, ny, xf, yf, R, F, T, N, VR, VF, VT, VN, o, s, cc, cr, ci, cg, cn, ws, wk, wl, wm, fr, fi, yk, yl, ym, sr, si, ke, rfl, rfl, h1, h2, h3, h4⟩ := I
  refine ⟨5, xs_begin_loop 4 0 rfl (fun hf => ⟨5, ys_begin_loop 4 0 rfl (fun _ => ⟨rfl, ?_⟩) (fun j hj hf' _ => ?_)⟩) (fun j hj hf ho => ⟨5, ys_begin_loop 4 0 rfl (fun hf' => ?_) (fun j' hj' hf' _ => ?_)⟩)⟩
  · exact ss_mk h1 h2 (ss_I_up h3) h4
  · omega
  · omega
  · have e : j' = j := by omega
    subst e
    exact ⟨rfl, ss_mk h1 h2 (ss_I_up (ss_I_begin h3 (by omega) hj ho)) h4⟩
theorem i_vc_abort {k : Nat} {u : SX} {v : SY} (I : i_Rel k u v) (hk : k + 6 ≤ 3072) (v1 : Int32) : wpX_abort (fun r u' => wpY_abort (fun r' v' => r' = r ∧ i_Rel (k + 6) u' v') v v1) u v1 := by
  obtain ⟨ck, rc, nx, ny, xf, yf, R, F, T, N, VR, VF, VT, VN, o, s, cc, cr, ci, cg, cn, ws, wk, wl, wm, fr, fi, yk, yl, ym, sr, si, ke, rfl, rfl, h1, h2, h3, h4⟩ := I
  unfold wpX_abort wpY_abort; dsimp only
  by_cases ho : ss_op o v1
  · refine xs_isOpen_t ho (br_f ss_10 ?_)
    have ho' := ho
    obtain ⟨t, ht, rfl, hot⟩ := ho'
    have hv : vp_in (nI t) 4 := vp_in_nI ht (by decide)
    have hc : (nI t).toNatClampNeg = t := nI_clamp (by omega)
    refine ⟨hv, nm_r (e' := upd o t 0) (by rw [hc]; rfl) (ys_isOpen_t ho (br_f ss_10 ⟨hv, nm_r (e' := upd o t 0) (by rw [hc]; rfl) ⟨rfl, rfl, ?_⟩⟩))⟩
    exact ss_mk h1 h2 (ss_I_up (ss_I_close h3)) h4
  · exact xs_isOpen_f ho (br_t rfl (ys_isOpen_f ho (br_t rfl ⟨rfl, rfl, ss_mk h1 h2 (ss_I_up h3) h4⟩)))
theorem i_vc_where {k : Nat} {u : SX} {v : SY} (I : i_Rel k u v) (hk : k + 6 ≤ 3072) (v1 : Int32) (v2 : Int32) (v3 : Int32) (v4 : Int32) : wpX_where (fun r u' => wpY_where (fun r' v' => r' = r ∧ i_Rel (k + 6) u' v') v v1 v2 v3 v4) u v1 v2 v3 v4 := by
  obtain ⟨ck, rc, nx, ny, xf, yf, R, F, T, N, VR, VF, VT, VN, o, s, cc, cr, ci, cg, cn, ws, wk, wl, wm, fr, fi, yk, yl, ym, sr, si, ke, rfl, rfl, h1, h2, h3, h4⟩ := I
  unfold wpX_where wpY_where; dsimp only
  by_cases ha : ss_am v1 2
  · have ha' := ha
    obtain ⟨j, hj, rfl⟩ := ha'
    have hv : vp_in (nI j) 2 := vp_in_nI hj (by decide)
    have hc : (nI j).toNatClampNeg = j := nI_clamp (by omega)
    refine br_f (nI_pos (by omega)) (br_t (nI_lt (b := 2) hj (by decide)) (br_c (fun e => ?_) (fun e => ?_)))
    · subst e
      refine ⟨hv, nm_r (e' := upd ws j 0) (by rw [hc]; rfl) ?_⟩
      refine ys_among_t (n := 2) rfl (by decide) ha (br_f ss_10 (br_f (by decide) (br_t (by decide) ⟨hv, nm_r (e' := upd yk j (-1)) (by rw [hc]) ⟨hv, nm_r (e' := upd yl j v3) (by rw [hc]) ⟨hv, nm_r (e' := upd ym j v4) (by rw [hc]) ⟨rfl, ?_⟩⟩⟩⟩)))
      refine ss_mk h1 h2 (ss_I_up h3) ?_
      intro i hi
      obtain ⟨a, b⟩ := h4 i hi
      by_cases ij : i = j
      · subst ij; rw [ss_us, ss_us]; exact ⟨a, Or.inl ⟨rfl, ss_m0⟩⟩
      · rw [ss_un ij, ss_un ij, ss_un ij, ss_un ij]; exact ⟨a, b⟩
    · by_cases hb : ss_am v2 3
      · refine xs_isColumn_t hb (br_f ss_10 ⟨hv, nm_r (e' := upd ws j 1) (by rw [hc]; rfl) ⟨hv, nm_r (e' := upd wk j v2) (by rw [hc]) ⟨hv, nm_r (e' := upd wl j v3) (by rw [hc]) ⟨hv, nm_r (e' := upd wm j v4) (by rw [hc]) ?_⟩⟩⟩⟩)
        obtain ⟨c, hc3, rfl⟩ := hb
        refine ys_among_t (n := 2) rfl (by decide) ha (br_f ss_10 (br_f ?_ (br_t (nI_le (b := 2) (by omega) (by decide)) ⟨hv, nm_r (e' := upd yk j (nI c)) (by rw [hc]) ⟨hv, nm_r (e' := upd yl j v3) (by rw [hc]) ⟨hv, nm_r (e' := upd ym j v4) (by rw [hc]) ⟨rfl, ?_⟩⟩⟩⟩)))
        · have e1 : (-1 : Int32).toInt = -1 := by decide
          rw [ss_lt, nI_toInt (by omega), e1]; omega
        · refine ss_mk h1 h2 (ss_I_up h3) ?_
          intro i hi
          obtain ⟨a, b⟩ := h4 i hi
          by_cases ij : i = j
          · subst ij; rw [ss_us, ss_us, ss_us, ss_us, ss_us, ss_us, ss_us]; exact ⟨⟨c, hc3, rfl⟩, Or.inr ⟨ss_10, rfl, rfl, rfl⟩⟩
          · rw [ss_un ij, ss_un ij, ss_un ij, ss_un ij, ss_un ij, ss_un ij, ss_un ij]; exact ⟨a, b⟩
      · refine xs_isColumn_f hb (br_t rfl ?_)
        have hR : i_Rel (k + 6) (nI ck, nI rc, nI nx, xf, R, F, T, N, o, s, cc, cr, ci, cg, cn, ws, wk, wl, wm, fr, fi) (nI ny, nI ck, nI rc, yf, VR, VF, VT, VN, o, s, cc, cr, ci, cg, cn, yk, yl, ym, sr, si, ke) := ss_mk h1 h2 (ss_I_up h3) h4
        refine ys_among_t (n := 2) rfl (by decide) ha (br_f ss_10 (br_c (fun _ => ⟨rfl, hR⟩) (fun hm => br_c (fun hm2 => ?_) (fun _ => ⟨rfl, hR⟩))))
        exfalso
        rw [ss_lt] at hm
        rw [ss_le] at hm2
        have e1 : (-1 : Int32).toInt = -1 := by decide
        have e2 : (2 : Int32).toInt = 2 := by decide
        have h0 : ¬ v2 < 0 := by
          intro hz
          rw [ss_lt] at hz
          have e3 : (0 : Int32).toInt = 0 := by decide
          exact e (by rw [ss_eq]; omega)
        obtain ⟨c, hc1, rfl⟩ := nI_of h0
        rw [nI_toInt hc1] at hm2
        exact hb ⟨c, by omega, rfl⟩
  · have hR : i_Rel (k + 6) (nI ck, nI rc, nI nx, xf, R, F, T, N, o, s, cc, cr, ci, cg, cn, ws, wk, wl, wm, fr, fi) (nI ny, nI ck, nI rc, yf, VR, VF, VT, VN, o, s, cc, cr, ci, cg, cn, yk, yl, ym, sr, si, ke) := ss_mk h1 h2 (ss_I_up h3) h4
    have hY : wpY_among (fun r_1 => (((r_1 = 0 → ((0 : Int32) = 0 ∧ i_Rel (k + 6) (nI ck, nI rc, nI nx, xf, R, F, T, N, o, s, cc, cr, ci, cg, cn, ws, wk, wl, wm, fr, fi) (nI ny, nI ck, nI rc, yf, VR, VF, VT, VN, o, s, cc, cr, ci, cg, cn, yk, yl, ym, sr, si, ke))) ∧ (¬ r_1 = 0 → False)))) (nI ny, nI ck, nI rc, yf, VR, VF, VT, VN, o, s, cc, cr, ci, cg, cn, yk, yl, ym, sr, si, ke) v1 2 :=
      ys_among_f (n := 2) rfl (by decide) ha (br_t rfl ⟨rfl, hR⟩)
    refine br_c (fun _ => ys_among_f (n := 2) rfl (by decide) ha (br_t rfl ⟨rfl, hR⟩)) (fun h0 => br_c (fun h9 => ?_) (fun _ => ys_among_f (n := 2) rfl (by decide) ha (br_t rfl ⟨rfl, hR⟩)))
    exfalso
    obtain ⟨c, hc1, rfl⟩ := nI_of h0
    exact ha ⟨c, (nI_ltI (b := 2) hc1 (by decide)).mp h9, rfl⟩
theorem i_vc_insert {k : Nat} {u : SX} {v : SY} (I : i_Rel k u v) (hk : k + 6 ≤ 3072) (v1 : Int32) (v2 : Int32) (v3 : Int32) (v4 : Int32) : wpX_insert (fun r u' => wpY_insert (fun r' v' => r' = r ∧ i_Rel (k + 6) u' v') v v1 v2 v3 v4) u v1 v2 v3 v4 := by
  obtain ⟨ck, rc, nx, ny, xf, yf, R, F, T, N, VR, VF, VT, VN, o, s, cc, cr, ci, cg, cn, ws, wk, wl, wm, fr, fi, yk, yl, ym, sr, si, ke, rfl, rfl, h1, h2, h3, h4⟩ := I
  unfold wpX_insert wpY_insert; dsimp only
  by_cases ho : ss_op o v1
  · refine xs_isOpen_t ho (br_f ss_10 ?_)
    have ho' := ho
    obtain ⟨t, ht, rfl, hot⟩ := ho'
    have hv : vp_in (nI t) 4 := vp_in_nI ht (by decide)
    have hc : (nI t).toNatClampNeg = t := nI_clamp (by omega)
    obtain ⟨hcc, h8, _⟩ := h3.2.2.2.2.2.2.1 t ht hot
    have hs : ∃ cnt, cnt = ss_n cc t := ⟨_, rfl⟩
    obtain ⟨cnt, hs⟩ := hs
    rw [← hs] at hcc h8
    rw [hc, hcc]
    by_cases h9 : cnt < 8
    · have hv2 : vp_in (nI (8 * t + cnt)) 32 := vp_in_nI (by omega) (by decide)
      have hk2 : (nI (8 * t + cnt)).toNatClampNeg = 8 * t + cnt := nI_clamp (by omega)
      have hv3 : vp_in (nI (3 * (8 * t + cnt))) 96 := vp_in_nI (by omega) (by decide)
      have hv4 : vp_in (nI (3 * (8 * t + cnt) + 1)) 96 := vp_in_nI (by omega) (by decide)
      have hv5 : vp_in (nI (3 * (8 * t + cnt) + 2)) 96 := vp_in_nI (by omega) (by decide)
      have hk3 : (nI (3 * (8 * t + cnt))).toNatClampNeg = 3 * (8 * t + cnt) := nI_clamp (by omega)
      have hk4 : (nI (3 * (8 * t + cnt) + 1)).toNatClampNeg = 3 * (8 * t + cnt) + 1 := nI_clamp (by omega)
      have hk5 : (nI (3 * (8 * t + cnt) + 2)).toNatClampNeg = 3 * (8 * t + cnt) + 2 := nI_clamp (by omega)
      refine ⟨hv, br_t (nI_lt (b := 8) h9 (by decide)) (nm_r (nI_1 rc) (xs_addChange ht hcc h9 ?_))⟩
      dsimp only
      rw [ss_j3, nI_1, ss_2, hk2, hk3, hk4, hk5]
      refine ⟨hv2, nm_r (e' := upd ci (8 * t + cnt) 1) ss_uu ⟨hv3, nm_e ⟨hv4, nm_e ⟨hv5, nm_e ?_⟩⟩⟩⟩
      refine ys_isOpen_t ho (br_f ss_10 ⟨hv, ?_⟩)
      refine br_f (fun z => ?_) ⟨hv, hv, nm_r (by rw [nI_1]) (nm_r (ss_8i t cnt) ?_)⟩
      · exact absurd ((nI_eq (b := 8) (by omega) (by decide)).mp z) (by omega)
      · rw [ss_3j, nI_1, ss_2, hk2, hk3, hk4, hk5]
        refine ⟨hv2, nm_e ⟨hv2, nm_r (e' := upd ci (8 * t + cnt) 1) rfl ⟨hv2, nm_r (e' := upd cg (8 * t + cnt) 0) rfl ⟨hv3, nm_e ⟨hv4, nm_e ⟨hv5, nm_e (nm_r (nI_1 rc) ⟨rfl, ?_⟩)⟩⟩⟩⟩⟩⟩
        refine ss_mk h1 h2 (ss_I_add h3 ht hot hcc h9 (by omega) (by have := h3.2.1; omega) ?_ ?_ (fun _ => ⟨?_, ?_, ?_⟩) (fun z => absurd z ss_10)) h4
        all_goals have hrc := h3.2.1
        · rw [nI_toInt (by omega)]; omega
        · intro i hi e
          have := h3.2.2.2.2.2.2.2.1 t i hi
          rw [e, nI_toInt (by omega)] at this; omega
        · intro w hw e
          have := (h3.2.2.2.2.1.1 w hw).1
          rw [e, nI_toInt (by omega)] at this; omega
        · intro w hw e
          have := (h3.2.2.2.2.2.1.1 w hw).1
          rw [e, nI_toInt (by omega)] at this; omega
        · intro u i hi e
          have := h3.2.2.2.2.2.2.2.1 u i hi
          rw [e, nI_toInt (by omega)] at this; omega
    · have e8 : cnt = 8 := by omega
      subst e8
      refine ⟨hv, br_f (by decide) (ys_isOpen_t ho (br_f ss_10 ⟨hv, ?_⟩))⟩
      exact br_t (by decide) ⟨rfl, ss_mk h1 h2 (ss_I_up h3) h4⟩
  · exact xs_isOpen_f ho (br_t rfl (ys_isOpen_f ho (br_t rfl ⟨rfl, ss_mk h1 h2 (ss_I_up h3) h4⟩)))
