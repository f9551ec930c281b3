theorem ss_k30 (i : Nat) : nI i * 3 + 0 = nI (3 * i) := ss_i3 i 0
theorem ss_k31 (i : Nat) : nI i * 3 + 1 = nI (3 * i + 1) := ss_i3 i 1
theorem ss_k32 (i : Nat) : nI i * 3 + 2 = nI (3 * i + 2) := ss_i3 i 2
theorem ss_z30 (i : Nat) : 3 * nI i + 0 = nI (3 * i) := ss_3i i 0
theorem ss_z31 (i : Nat) : 3 * nI i + 1 = nI (3 * i + 1) := ss_3i i 1
theorem ss_z32 (i : Nat) : 3 * nI i + 2 = nI (3 * i + 2) := ss_3i i 2
def ss_st (a : Nat → Int32) (i : Nat) (v : ss_V) : Nat → Int32 := upd (upd (upd a (3 * i) v.2.2.2.1) (3 * i + 1) v.2.2.2.2.1) (3 * i + 2) v.2.2.2.2.2
section
variable {xc xr xn xf : Int32} {R F T N o s cc cr ci cg cn ws wk wl wm fr fi : Nat → Int32}
variable {pr : Int32 → Prop}
theorem xs_fv_n {row tm : Int32} {n : Nat} (hn : n ≤ 40) (hx : xn = nI n) (hf : (ss_L (ss_at R F T N) 0 n).find? (ss_fp row tm) = none) (hp : pr (-1)) : wpX_findVersion pr (xc, xr, xn, xf, R, F, T, N, o, s, cc, cr, ci, cg, cn, ws, wk, wl, wm, fr, fi) row tm := by
  refine xs_findVersion hn hx (fun r hr => ?_)
  rcases hr with ⟨rfl, _⟩ | ⟨j, _, _, h⟩
  · exact hp
  · rw [hf] at h; exact nomatch h
theorem xs_fv_s {row tm : Int32} {n : Nat} {v : ss_V} (hn : n ≤ 40) (hx : xn = nI n) (hf : (ss_L (ss_at R F T N) 0 n).find? (ss_fp row tm) = some v) (hp : ∀ j, j < n → v = ss_at R F T N j → pr (nI j)) : wpX_findVersion pr (xc, xr, xn, xf, R, F, T, N, o, s, cc, cr, ci, cg, cn, ws, wk, wl, wm, fr, fi) row tm := by
  refine xs_findVersion hn hx (fun r hr => ?_)
  rcases hr with ⟨_, h⟩ | ⟨j, hj, rfl, h⟩
  · rw [hf] at h; exact nomatch h
  · rw [hf] at h; exact hp j hj (Option.some.inj h)
variable {post : Int32 → SX → Prop} {row : Int32} {t cnt n : Nat}
theorem xs_slot_A0 {j : Nat} (ht : t < 4) (hc : cc t = nI cnt) (h8 : cnt ≤ 8) (hf : ss_fc cr row (8 * t) cnt = nI j) (hj : j < 32) (hg : cg j = 0) (hp : post (nI j) (xc, xr, xn, xf, R, F, T, N, o, s, cc, cr, ci, cg, cn, ws, wk, wl, wm, fr, fi)) : wpX_slotToChange post (xc, xr, xn, xf, R, F, T, N, o, s, cc, cr, ci, cg, cn, ws, wk, wl, wm, fr, fi) (nI t) row := by
  unfold wpX_slotToChange; dsimp only
  refine xs_findChange ht hc h8 ?_
  rw [hf, nI_clamp (n := j) (by omega)]
  exact br_f (nI_pos (by omega)) ⟨vp_in_nI hj (by decide), br_t hg hp⟩
theorem xs_slot_A1 {j : Nat} (ht : t < 4) (hc : cc t = nI cnt) (h8 : cnt ≤ 8) (hf : ss_fc cr row (8 * t) cnt = nI j) (hj : j < 32) (hg : ¬ cg j = 0) (hp : post (-1) (xc, xr, xn, xf, R, F, T, N, o, s, cc, cr, ci, cg, cn, ws, wk, wl, wm, fr, fi)) : wpX_slotToChange post (xc, xr, xn, xf, R, F, T, N, o, s, cc, cr, ci, cg, cn, ws, wk, wl, wm, fr, fi) (nI t) row := by
  unfold wpX_slotToChange; dsimp only
  refine xs_findChange ht hc h8 ?_
  rw [hf, nI_clamp (n := j) (by omega)]
  exact br_f (nI_pos (by omega)) ⟨vp_in_nI hj (by decide), br_f hg hp⟩
theorem xs_slot_B (ht : t < 4) (hc : cc t = nI cnt) (h8 : cnt ≤ 8) (hf : ss_fc cr row (8 * t) cnt = -1) (hn : n ≤ 40) (hx : xn = nI n) (hv : (ss_L (ss_at R F T N) 0 n).find? (ss_fp row (s t)) = none) (hp : post (-1) (xc, xr, xn, xf, R, F, T, N, o, s, cc, cr, ci, cg, cn, ws, wk, wl, wm, fr, fi)) : wpX_slotToChange post (xc, xr, xn, xf, R, F, T, N, o, s, cc, cr, ci, cg, cn, ws, wk, wl, wm, fr, fi) (nI t) row := by
  unfold wpX_slotToChange; dsimp only
  refine xs_findChange ht hc h8 ?_
  rw [hf, nI_clamp (n := t) (by omega)]
  exact br_t ss_m0 ⟨vp_in_nI ht (by decide), xs_fv_n hn hx hv (br_f (by decide) hp)⟩
theorem xs_slot_C {v : ss_V} (ht : t < 4) (hc : cc t = nI cnt) (h8 : cnt = 8) (hf : ss_fc cr row (8 * t) cnt = -1) (hn : n ≤ 40) (hx : xn = nI n) (hv : (ss_L (ss_at R F T N) 0 n).find? (ss_fp row (s t)) = some v) (hp : post (-3) (xc, xr, xn, xf, R, F, T, N, o, s, cc, cr, ci, cg, cn, ws, wk, wl, wm, fr, fi)) : wpX_slotToChange post (xc, xr, xn, xf, R, F, T, N, o, s, cc, cr, ci, cg, cn, ws, wk, wl, wm, fr, fi) (nI t) row := by
  unfold wpX_slotToChange; dsimp only
  refine xs_findChange ht hc (by omega) ?_
  rw [hf, nI_clamp (n := t) (by omega), hc]
  refine br_t ss_m0 ⟨vp_in_nI ht (by decide), xs_fv_s hn hx hv (fun j hj _ => br_t (nI_pos' (by omega)) ⟨vp_in_nI ht (by decide), br_f ?_ hp⟩)⟩
  rw [h8]; decide
theorem xs_slot_D {v : ss_V} (ht : t < 4) (hc : cc t = nI cnt) (h8 : cnt < 8) (hf : ss_fc cr row (8 * t) cnt = -1) (hn : n ≤ 40) (hx : xn = nI n) (hv : (ss_L (ss_at R F T N) 0 n).find? (ss_fp row (s t)) = some v) (hp : post (nI (8 * t + cnt)) (xc, xr, xn, xf, R, F, T, N, o, s, upd cc t (nI (cnt + 1)), upd cr (8 * t + cnt) row, upd ci (8 * t + cnt) 0, upd cg (8 * t + cnt) 0, ss_st cn (8 * t + cnt) v, ws, wk, wl, wm, fr, fi)) : wpX_slotToChange post (xc, xr, xn, xf, R, F, T, N, o, s, cc, cr, ci, cg, cn, ws, wk, wl, wm, fr, fi) (nI t) row := by
  unfold wpX_slotToChange; dsimp only
  refine xs_findChange ht hc (by omega) ?_
  rw [hf, nI_clamp (n := t) (by omega), hc]
  refine br_t ss_m0 ⟨vp_in_nI ht (by decide), xs_fv_s hn hx hv (fun j hj ej => br_t (nI_pos' (by omega)) ⟨vp_in_nI ht (by decide), br_t (nI_lt (b := 8) h8 (by decide)) (xs_addChange ht hc h8 ?_)⟩)⟩
  rw [ej] at hp
  exact ⟨4, br_f (by decide) ⟨by rw [ss_k30 j]; exact vp_in_nI (by omega) (by decide), by rw [ss_k30 (8 * t + cnt)]; exact vp_in_nI (by omega) (by decide), nm_r (e' := upd cn (3 * (8 * t + cnt)) (N (3 * j))) (by rw [ss_k30 (8 * t + cnt), ss_k30 j, nI_clamp (n := 3 * (8 * t + cnt)) (by omega), nI_clamp (n := 3 * j) (by omega)]) (nm_r (e' := 1) (by decide) (br_f (by decide) ⟨by rw [ss_k31 j]; exact vp_in_nI (by omega) (by decide), by rw [ss_k31 (8 * t + cnt)]; exact vp_in_nI (by omega) (by decide), nm_r (e' := upd (upd cn (3 * (8 * t + cnt)) (N (3 * j))) (3 * (8 * t + cnt) + 1) (N (3 * j + 1))) (by rw [ss_k31 (8 * t + cnt), ss_k31 j, nI_clamp (n := 3 * (8 * t + cnt) + 1) (by omega), nI_clamp (n := 3 * j + 1) (by omega)]) (nm_r (e' := 2) (by decide) (br_f (by decide) ⟨by rw [ss_k32 j]; exact vp_in_nI (by omega) (by decide), by rw [ss_k32 (8 * t + cnt)]; exact vp_in_nI (by omega) (by decide), nm_r (e' := upd (upd (upd cn (3 * (8 * t + cnt)) (N (3 * j))) (3 * (8 * t + cnt) + 1) (N (3 * j + 1))) (3 * (8 * t + cnt) + 2) (N (3 * j + 2))) (by rw [ss_k32 (8 * t + cnt), ss_k32 j, nI_clamp (n := 3 * (8 * t + cnt) + 2) (by omega), nI_clamp (n := 3 * j + 2) (by omega)]) (nm_r (e' := 3) (by decide) (br_t (by decide) hp))⟩))⟩))⟩⟩
end
section
variable {yn yc yr yf : Int32} {R F T N o s cc cr ci cg cn yk yl ym sr si ke : Nat → Int32}
variable {pr : Int32 → Prop}
theorem ys_fv_n {row tm : Int32} {n : Nat} (hn : n ≤ 56) (hx : yn = nI n) (hf : (ss_L (ss_at R F T N) 0 n).find? (ss_fp row tm) = none) (hp : pr (-1)) : wpY_versionAt pr (yn, yc, yr, yf, R, F, T, N, o, s, cc, cr, ci, cg, cn, yk, yl, ym, sr, si, ke) row tm := by
  refine ys_versionAt hn hx (fun r hr => ?_)
  rcases hr with ⟨rfl, _⟩ | ⟨j, _, _, h⟩
  · exact hp
  · rw [hf] at h; exact nomatch h
theorem ys_fv_s {row tm : Int32} {n : Nat} {v : ss_V} (hn : n ≤ 56) (hx : yn = nI n) (hf : (ss_L (ss_at R F T N) 0 n).find? (ss_fp row tm) = some v) (hp : ∀ j, j < n → v = ss_at R F T N j → pr (nI j)) : wpY_versionAt pr (yn, yc, yr, yf, R, F, T, N, o, s, cc, cr, ci, cg, cn, yk, yl, ym, sr, si, ke) row tm := by
  refine ys_versionAt hn hx (fun r hr => ?_)
  rcases hr with ⟨_, h⟩ | ⟨j, hj, rfl, h⟩
  · rw [hf] at h; exact nomatch h
  · rw [hf] at h; exact hp j hj (Option.some.inj h)
variable {row : Int32} {t cnt n : Nat}
theorem ys_sees_A0 {j : Nat} (ht : t < 4) (hc : cc t = nI cnt) (h8 : cnt ≤ 8) (hf : ss_fc cr row (8 * t) cnt = nI j) (hj : j < 32) (hg : cg j = 0) (hp : pr 1) : wpY_sees pr (yn, yc, yr, yf, R, F, T, N, o, s, cc, cr, ci, cg, cn, yk, yl, ym, sr, si, ke) (nI t) row := by
  unfold wpY_sees; dsimp only
  refine ys_changeOf ht hc h8 ?_
  rw [hf, nI_clamp (n := j) (by omega)]
  exact br_f (nI_pos (by omega)) ⟨vp_in_nI hj (by decide), br_t hg hp⟩
theorem ys_sees_A1 {j : Nat} (ht : t < 4) (hc : cc t = nI cnt) (h8 : cnt ≤ 8) (hf : ss_fc cr row (8 * t) cnt = nI j) (hj : j < 32) (hg : ¬ cg j = 0) (hp : pr 0) : wpY_sees pr (yn, yc, yr, yf, R, F, T, N, o, s, cc, cr, ci, cg, cn, yk, yl, ym, sr, si, ke) (nI t) row := by
  unfold wpY_sees; dsimp only
  refine ys_changeOf ht hc h8 ?_
  rw [hf, nI_clamp (n := j) (by omega)]
  exact br_f (nI_pos (by omega)) ⟨vp_in_nI hj (by decide), br_f hg hp⟩
theorem ys_sees_B (ht : t < 4) (hc : cc t = nI cnt) (h8 : cnt ≤ 8) (hf : ss_fc cr row (8 * t) cnt = -1) (hn : n ≤ 56) (hx : yn = nI n) (hv : (ss_L (ss_at R F T N) 0 n).find? (ss_fp row (s t)) = none) (hp : pr 0) : wpY_sees pr (yn, yc, yr, yf, R, F, T, N, o, s, cc, cr, ci, cg, cn, yk, yl, ym, sr, si, ke) (nI t) row := by
  unfold wpY_sees; dsimp only
  refine ys_changeOf ht hc h8 ?_
  rw [hf, nI_clamp (n := t) (by omega)]
  exact br_t ss_m0 ⟨vp_in_nI ht (by decide), ys_fv_n hn hx hv (br_t ss_m0 hp)⟩
theorem ys_sees_C {v : ss_V} (ht : t < 4) (hc : cc t = nI cnt) (h8 : cnt ≤ 8) (hf : ss_fc cr row (8 * t) cnt = -1) (hn : n ≤ 56) (hx : yn = nI n) (hv : (ss_L (ss_at R F T N) 0 n).find? (ss_fp row (s t)) = some v) (hp : pr 1) : wpY_sees pr (yn, yc, yr, yf, R, F, T, N, o, s, cc, cr, ci, cg, cn, yk, yl, ym, sr, si, ke) (nI t) row := by
  unfold wpY_sees; dsimp only
  refine ys_changeOf ht hc h8 ?_
  rw [hf, nI_clamp (n := t) (by omega)]
  exact br_t ss_m0 ⟨vp_in_nI ht (by decide), ys_fv_s hn hx hv (fun j hj _ => br_f (nI_pos (by omega)) hp)⟩
variable {post : Int32 → SY → Prop}
theorem ys_changed_A {j : Nat} (ht : t < 4) (hc : cc t = nI cnt) (h8 : cnt ≤ 8) (hf : ss_fc cr row (8 * t) cnt = nI j) (hj : j < 32) (hp : post (nI j) (yn, yc, yr, yf, R, F, T, N, o, s, cc, cr, ci, cg, cn, yk, yl, ym, sr, si, ke)) : wpY_changed post (yn, yc, yr, yf, R, F, T, N, o, s, cc, cr, ci, cg, cn, yk, yl, ym, sr, si, ke) (nI t) row := by
  unfold wpY_changed; dsimp only
  refine ys_changeOf ht hc h8 ?_
  rw [hf]
  exact br_f (nI_pos (by omega)) hp
theorem ys_changed_C (ht : t < 4) (hc : cc t = nI cnt) (h8 : cnt = 8) (hf : ss_fc cr row (8 * t) cnt = -1) (hp : post (-3) (yn, yc, yr, yf, R, F, T, N, o, s, cc, cr, ci, cg, cn, yk, yl, ym, sr, si, ke)) : wpY_changed post (yn, yc, yr, yf, R, F, T, N, o, s, cc, cr, ci, cg, cn, yk, yl, ym, sr, si, ke) (nI t) row := by
  unfold wpY_changed; dsimp only
  refine ys_changeOf ht hc (by omega) ?_
  rw [hf, nI_clamp (n := t) (by omega), hc, h8]
  exact br_t ss_m0 ⟨vp_in_nI ht (by decide), br_t (by decide) hp⟩
theorem ys_changed_D {v : ss_V} (ht : t < 4) (hc : cc t = nI cnt) (h8 : cnt < 8) (hf : ss_fc cr row (8 * t) cnt = -1) (hn : n ≤ 56) (hx : yn = nI n) (hv : (ss_L (ss_at R F T N) 0 n).find? (ss_fp row (s t)) = some v) (hp : post (nI (8 * t + cnt)) (yn, yc, yr, yf, R, F, T, N, o, s, upd cc t (nI (cnt + 1)), upd cr (8 * t + cnt) row, upd ci (8 * t + cnt) 0, upd cg (8 * t + cnt) 0, ss_st cn (8 * t + cnt) v, yk, yl, ym, sr, si, ke)) : wpY_changed post (yn, yc, yr, yf, R, F, T, N, o, s, cc, cr, ci, cg, cn, yk, yl, ym, sr, si, ke) (nI t) row := by
  unfold wpY_changed; dsimp only
  refine ys_changeOf ht hc (by omega) ?_
  have hi : vp_in (nI t) 4 := vp_in_nI ht (by decide)
  have hv2 : vp_in (nI (8 * t + cnt)) 32 := vp_in_nI (by omega) (by decide)
  have hk2 : (nI (8 * t + cnt)).toNatClampNeg = 8 * t + cnt := nI_clamp (by omega)
  rw [hf, nI_clamp (n := t) (by omega), hc]
  refine br_t ss_m0 ⟨hi, br_f (fun z => ?_) ⟨hi, hi, nm_r (by rw [nI_1]) (nm_r (ss_8i t cnt) ⟨hi, ys_fv_s hn hx hv (fun j hj ej => ?_)⟩)⟩⟩
  · exact absurd ((nI_eq (b := 8) (by omega) (by decide)).mp z) (by omega)
  · rw [hk2]
    refine ⟨hv2, nm_e ⟨hv2, nm_r (e' := upd ci (8 * t + cnt) 0) rfl ⟨hv2, nm_r (e' := upd cg (8 * t + cnt) 0) rfl ?_⟩⟩⟩
    rw [ej] at hp
    exact ⟨4, br_f (by decide) ⟨by rw [ss_z30 j]; exact vp_in_nI (by omega) (by decide), by rw [ss_z30 (8 * t + cnt)]; exact vp_in_nI (by omega) (by decide), nm_r (e' := upd cn (3 * (8 * t + cnt)) (N (3 * j))) (by rw [ss_z30 (8 * t + cnt), ss_z30 j, nI_clamp (n := 3 * (8 * t + cnt)) (by omega), nI_clamp (n := 3 * j) (by omega)]) (nm_r (e' := 1) (by decide) (br_f (by decide) ⟨by rw [ss_z31 j]; exact vp_in_nI (by omega) (by decide), by rw [ss_z31 (8 * t + cnt)]; exact vp_in_nI (by omega) (by decide), nm_r (e' := upd (upd cn (3 * (8 * t + cnt)) (N (3 * j))) (3 * (8 * t + cnt) + 1) (N (3 * j + 1))) (by rw [ss_z31 (8 * t + cnt), ss_z31 j, nI_clamp (n := 3 * (8 * t + cnt) + 1) (by omega), nI_clamp (n := 3 * j + 1) (by omega)]) (nm_r (e' := 2) (by decide) (br_f (by decide) ⟨by rw [ss_z32 j]; exact vp_in_nI (by omega) (by decide), by rw [ss_z32 (8 * t + cnt)]; exact vp_in_nI (by omega) (by decide), nm_r (e' := upd (upd (upd cn (3 * (8 * t + cnt)) (N (3 * j))) (3 * (8 * t + cnt) + 1) (N (3 * j + 1))) (3 * (8 * t + cnt) + 2) (N (3 * j + 2))) (by rw [ss_z32 (8 * t + cnt), ss_z32 j, nI_clamp (n := 3 * (8 * t + cnt) + 2) (by omega), nI_clamp (n := 3 * j + 2) (by omega)]) (nm_r (e' := 3) (by decide) (br_t (by decide) hp))⟩))⟩))⟩⟩
end
theorem ss_fp_live {c : Int32} {o s : Nat → Int32} {row : Int32} {t : Nat} (ht : t < 4) (ho : ¬ o t = 0) (v : ss_V) (h : ss_fp row (s t) v = true) : ss_lv c o s v = true := by
  unfold ss_fp at h
  rw [Bool.and_eq_true] at h
  exact ss_lv_t ht ho h.2
theorem ss_fp_live' {c : Int32} {o s : Nat → Int32} {row : Int32} (v : ss_V) (h : ss_fp row c v = true) : ss_lv c o s v = true := by
  unfold ss_fp at h
  rw [Bool.and_eq_true] at h
  exact ss_lv_iff.mpr (Or.inl h.2)
/-- the shape of a question of t about a row -/
theorem ss_row4 (cr : Nat → Int32) (row : Int32) (t cnt : Nat) (h : 8 * t + cnt ≤ 32) : (∃ j, j < 32 ∧ 8 * t ≤ j ∧ j < 8 * t + cnt ∧ ss_fc cr row (8 * t) cnt = nI j) ∨ (ss_in cr row (8 * t) cnt = false ∧ ss_fc cr row (8 * t) cnt = -1) := by
  rcases ss_fc_spec (cr := cr) (row := row) cnt (8 * t) with h1 | ⟨_, j, h2, h3, _, h4⟩
  · exact Or.inr h1
  · exact Or.inl ⟨j, by omega, h2, h3, h4⟩
theorem ss_I_touch {k ck rc t cnt : Nat} {row : Int32} {o s cc cr ci : Nat → Int32} {LX LY : List ss_V} {v : ss_V} (h : ss_I k ck rc o s cc cr ci LX LY)
    (ht : t < 4) (ho : ¬ o t = 0) (hc : cc t = nI cnt) (h8 : cnt < 8) (hi : ss_in cr row (8 * t) cnt = false) (hv : LX.find? (ss_fp row (s t)) = some v) :
    ss_I (k + 6) ck rc o s (upd cc t (nI (cnt + 1))) (upd cr (8 * t + cnt) row) (upd ci (8 * t + cnt) 0) LX LY := by
  have hm := List.mem_of_find?_eq_some hv
  have hq := List.find?_some hv
  unfold ss_fp at hq
  rw [Bool.and_eq_true, decide_eq_true_iff] at hq
  refine ss_I_add h ht ho hc h8 (Nat.le_refl rc) (by have := h.2.1; omega) ?_ ?_ (fun z => absurd rfl z) (fun _ => ⟨v, hm, hq⟩)
  · rw [← hq.1]; exact (h.2.2.2.2.1.1 v hm).1
  · intro i hon e
    have hnt : ss_n cc t = cnt := by unfold ss_n; rw [hc, nI_clamp (by omega)]
    have h9 := hon.2.2
    rw [hnt] at h9
    have : ss_in cr row (8 * t) cnt = true := (ss_in_iff cnt (8 * t)).mpr ⟨8 * t + i, by omega, by omega, e⟩
    rw [hi] at this; exact nomatch this
theorem i_vc_remove {k : Nat} {u : SX} {v : SY} (I : i_Rel k u v) (hk : k + 6 ≤ 3072) (v1 : Int32) (v2 : Int32) : wpX_remove (fun r u' => wpY_remove (fun r' v' => r' = r ∧ i_Rel (k + 6) u' v') v v1 v2) u v1 v2 := by
  obtain ⟨ck, rc, nx, ny, xf, yf, R, F, T, N, VR, VF, VT, VN, o, s, cc, cr, ci, cg, cn, ws, wk, wl, wm, fr, fi, yk, yl, ym, sr, si, ke, rfl, rfl, h1, h2, h3, h4⟩ := I
  unfold wpX_remove wpY_remove; dsimp only
  by_cases ho : ss_op o v1
  · refine xs_isOpen_t ho (br_f ss_10 ?_)
    have ho' := ho
    obtain ⟨t, ht, rfl, hot⟩ := ho'
    obtain ⟨hcc, h8, _⟩ := h3.2.2.2.2.2.2.1 t ht hot
    have hs : ∃ cnt, cnt = ss_n cc t := ⟨_, rfl⟩
    obtain ⟨cnt, hs⟩ := hs
    rw [← hs] at hcc h8
    have hR := ss_mk (xf := xf) (yf := yf) (cg := cg) (cn := cn) (fr := fr) (fi := fi) (sr := sr) (si := si) (ke := ke) h1 h2 (ss_I_up h3) h4
    have hfe : (ss_L (ss_at R F T N) 0 nx).find? (ss_fp v2 (s t)) = (ss_L (ss_at VR VF VT VN) 0 ny).find? (ss_fp v2 (s t)) := ss_fnd (ss_flt' h3.2.2.1 (ss_fp_live ht hot))
    rcases ss_row4 cr v2 t cnt (by omega) with ⟨j, hj, _, _, hf⟩ | ⟨hin, hf⟩
    · by_cases hg : cg j = 0
      · refine xs_slot_A0 ht hcc h8 hf hj hg (br_t (nI_pos' (by omega)) ⟨vp_in_nI hj (by decide), nm_r (e' := upd cg j 1) (by rw [nI_clamp (by omega)]; rfl) ?_⟩)
        refine ys_isOpen_t ho (br_f ss_10 (ys_sees_A0 ht hcc h8 hf hj hg (br_f ss_10 (ys_changed_A ht hcc h8 hf hj (br_t (nI_pos' (by omega)) ⟨vp_in_nI hj (by decide), nm_r (e' := upd cg j 1) (by rw [nI_clamp (by omega)]; rfl) ⟨rfl, ?_⟩⟩)))))
        exact ss_mk h1 h2 (ss_I_up h3) h4
      · exact xs_slot_A1 ht hcc h8 hf hj hg (br_f (by decide) (ys_isOpen_t ho (br_f ss_10 (ys_sees_A1 ht hcc h8 hf hj hg (br_t rfl ⟨rfl, hR⟩)))))
    · cases hv : (ss_L (ss_at R F T N) 0 nx).find? (ss_fp v2 (s t)) with
      | none => exact xs_slot_B ht hcc h8 hf h1 rfl hv (br_f (by decide) (ys_isOpen_t ho (br_f ss_10 (ys_sees_B ht hcc h8 hf (by omega) rfl (hfe ▸ hv) (br_t rfl ⟨rfl, hR⟩)))))
      | some v =>
        have hv' : (ss_L (ss_at VR VF VT VN) 0 ny).find? (ss_fp v2 (s t)) = some v := hfe ▸ hv
        by_cases h9 : cnt < 8
        · have hj : 8 * t + cnt < 32 := by omega
          refine xs_slot_D ht hcc h9 hf h1 rfl hv (br_t (nI_pos' (by omega)) ⟨vp_in_nI hj (by decide), nm_r (e' := upd cg (8 * t + cnt) 1) (by rw [nI_clamp (by omega)]; exact ss_uu) ?_⟩)
          refine ys_isOpen_t ho (br_f ss_10 (ys_sees_C ht hcc h8 hf (by omega) rfl hv' (br_f ss_10 (ys_changed_D ht hcc h9 hf (by omega) rfl hv' (br_t (nI_pos' (by omega)) ⟨vp_in_nI hj (by decide), nm_r (e' := upd cg (8 * t + cnt) 1) (by rw [nI_clamp (by omega)]; exact ss_uu) ⟨rfl, ?_⟩⟩)))))
          exact ss_mk h1 h2 (ss_I_touch h3 ht hot hcc h9 hin hv) h4
        · exact xs_slot_C ht hcc (by omega) hf h1 rfl hv (br_f (by decide) (ys_isOpen_t ho (br_f ss_10 (ys_sees_C ht hcc h8 hf (by omega) rfl hv' (br_f ss_10 (ys_changed_C ht hcc (by omega) hf (br_f (by decide) ⟨rfl, hR⟩)))))))
  · exact xs_isOpen_f ho (br_t rfl (ys_isOpen_f ho (br_t rfl ⟨rfl, ss_mk h1 h2 (ss_I_up h3) h4⟩)))
theorem i_vc_update {k : Nat} {u : SX} {v : SY} (I : i_Rel k u v) (hk : k + 6 ≤ 3072) (v1 : Int32) (v2 : Int32) (v3 : Int32) (v4 : Int32) : wpX_update (fun r u' => wpY_update (fun r' v' => r' = r ∧ i_Rel (k + 6) u' v') v v1 v2 v3 v4) u v1 v2 v3 v4 := by
  obtain ⟨ck, rc, nx, ny, xf, yf, R, F, T, N, VR, VF, VT, VN, o, s, cc, cr, ci, cg, cn, ws, wk, wl, wm, fr, fi, yk, yl, ym, sr, si, ke, rfl, rfl, h1, h2, h3, h4⟩ := I
  unfold wpX_update wpY_update; dsimp only
  by_cases ho : ss_op o v1
  · refine xs_isOpen_t ho (br_f ss_10 ?_)
    have ho' := ho
    obtain ⟨t, ht, rfl, hot⟩ := ho'
    obtain ⟨hcc, h8, _⟩ := h3.2.2.2.2.2.2.1 t ht hot
    have hs : ∃ cnt, cnt = ss_n cc t := ⟨_, rfl⟩
    obtain ⟨cnt, hs⟩ := hs
    rw [← hs] at hcc h8
    have hR := ss_mk (xf := xf) (yf := yf) (cg := cg) (cn := cn) (fr := fr) (fi := fi) (sr := sr) (si := si) (ke := ke) h1 h2 (ss_I_up h3) h4
    have hfe : (ss_L (ss_at R F T N) 0 nx).find? (ss_fp v2 (s t)) = (ss_L (ss_at VR VF VT VN) 0 ny).find? (ss_fp v2 (s t)) := ss_fnd (ss_flt' h3.2.2.1 (ss_fp_live ht hot))
    by_cases hcol : ss_am v3 3
    · refine xs_isColumn_t hcol (br_f ss_10 ?_)
      have hcol' := hcol
      obtain ⟨c, hc3, rfl⟩ := hcol'
      rcases ss_row4 cr v2 t cnt (by omega) with ⟨j, hj, _, _, hf⟩ | ⟨hin, hf⟩
      · by_cases hg : cg j = 0
        · refine xs_slot_A0 ht hcc h8 hf hj hg (br_t (nI_pos' (by omega)) ⟨by rw [ss_i3]; exact vp_in_nI (by omega) (by decide), nm_r (e' := upd cn (3 * j + c) v4) (by rw [ss_i3, nI_clamp (by omega)]) ?_⟩)
          refine ys_isOpen_t ho (br_f ss_10 (ys_sees_A0 ht hcc h8 hf hj hg (br_f ss_10 (ys_among_t (n := 3) rfl (by decide) hcol (br_f ss_10 (ys_changed_A ht hcc h8 hf hj (br_t (nI_pos' (by omega)) ⟨by rw [ss_3i]; exact vp_in_nI (by omega) (by decide), nm_r (e' := upd cn (3 * j + c) v4) (by rw [ss_3i, nI_clamp (by omega)]) ⟨rfl, ?_⟩⟩)))))))
          exact ss_mk h1 h2 (ss_I_up h3) h4
        · exact xs_slot_A1 ht hcc h8 hf hj hg (br_f (by decide) (ys_isOpen_t ho (br_f ss_10 (ys_sees_A1 ht hcc h8 hf hj hg (br_t rfl ⟨rfl, hR⟩)))))
      · cases hv : (ss_L (ss_at R F T N) 0 nx).find? (ss_fp v2 (s t)) with
        | none => exact xs_slot_B ht hcc h8 hf h1 rfl hv (br_f (by decide) (ys_isOpen_t ho (br_f ss_10 (ys_sees_B ht hcc h8 hf (by omega) rfl (hfe ▸ hv) (br_t rfl ⟨rfl, hR⟩)))))
        | some v =>
          have hv' : (ss_L (ss_at VR VF VT VN) 0 ny).find? (ss_fp v2 (s t)) = some v := hfe ▸ hv
          by_cases h9 : cnt < 8
          · have hj : 8 * t + cnt < 32 := by omega
            refine xs_slot_D ht hcc h9 hf h1 rfl hv (br_t (nI_pos' (by omega)) ⟨by rw [ss_i3]; exact vp_in_nI (by omega) (by decide), nm_r (e' := upd (ss_st cn (8 * t + cnt) v) (3 * (8 * t + cnt) + c) v4) (by rw [ss_i3, nI_clamp (by omega)]) ?_⟩)
            refine ys_isOpen_t ho (br_f ss_10 (ys_sees_C ht hcc h8 hf (by omega) rfl hv' (br_f ss_10 (ys_among_t (n := 3) rfl (by decide) hcol (br_f ss_10 (ys_changed_D ht hcc h9 hf (by omega) rfl hv' (br_t (nI_pos' (by omega)) ⟨by rw [ss_3i]; exact vp_in_nI (by omega) (by decide), nm_r (e' := upd (ss_st cn (8 * t + cnt) v) (3 * (8 * t + cnt) + c) v4) (by rw [ss_3i, nI_clamp (by omega)]) ⟨rfl, ?_⟩⟩)))))))
            exact ss_mk h1 h2 (ss_I_touch h3 ht hot hcc h9 hin hv) h4
          · exact xs_slot_C ht hcc (by omega) hf h1 rfl hv (br_f (by decide) (ys_isOpen_t ho (br_f ss_10 (ys_sees_C ht hcc h8 hf (by omega) rfl hv' (br_f ss_10 (ys_among_t (n := 3) rfl (by decide) hcol (br_f ss_10 (ys_changed_C ht hcc (by omega) hf (br_f (by decide) ⟨rfl, hR⟩)))))))))
    · refine xs_isColumn_f hcol (br_t rfl (ys_isOpen_t ho (br_f ss_10 ?_)))
      have hE : ∀ r, r = 0 ∨ r = 1 → r = r := fun r _ => rfl
      rcases ss_row4 cr v2 t cnt (by omega) with ⟨j, hj, _, _, hf⟩ | ⟨hin, hf⟩
      · by_cases hg : cg j = 0
        · exact ys_sees_A0 ht hcc h8 hf hj hg (br_f ss_10 (ys_among_f (n := 3) rfl (by decide) hcol (br_t rfl ⟨rfl, hR⟩)))
        · exact ys_sees_A1 ht hcc h8 hf hj hg (br_t rfl ⟨rfl, hR⟩)
      · cases hv : (ss_L (ss_at VR VF VT VN) 0 ny).find? (ss_fp v2 (s t)) with
        | none => exact ys_sees_B ht hcc h8 hf (by omega) rfl hv (br_t rfl ⟨rfl, hR⟩)
        | some v => exact ys_sees_C ht hcc h8 hf (by omega) rfl hv (br_f ss_10 (ys_among_f (n := 3) rfl (by decide) hcol (br_t rfl ⟨rfl, hR⟩)))
  · exact xs_isOpen_f ho (br_t rfl (ys_isOpen_f ho (br_t rfl ⟨rfl, ss_mk h1 h2 (ss_I_up h3) h4⟩)))
