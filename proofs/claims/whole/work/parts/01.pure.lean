theorem ss_us {f : Nat → Int32} {k : Nat} {x : Int32} : upd f k x k = x := if_pos rfl
theorem ss_un {f : Nat → Int32} {k j : Nat} {x : Int32} (h : j ≠ k) : upd f k x j = f j := if_neg h
theorem ss_uu {f : Nat → Int32} {k : Nat} {x y : Int32} : upd (upd f k x) k y = upd f k y := by
  funext j
  by_cases h : j = k
  · subst h; rw [ss_us, ss_us]
  · rw [ss_un h, ss_un h, ss_un h]
theorem ss_mul (a b : Nat) : nI a * nI b = nI (a * b) := (Int32.ofNat_mul a b).symm
theorem ss_i3 (i c : Nat) : nI i * 3 + nI c = nI (3 * i + c) := by
  have h : nI i * nI 3 + nI c = nI (3 * i + c) := by rw [ss_mul, nI_add, Nat.mul_comm i 3]
  exact h
theorem ss_3i (i c : Nat) : 3 * nI i + nI c = nI (3 * i + c) := by
  have h : nI 3 * nI i + nI c = nI (3 * i + c) := by rw [ss_mul, nI_add]
  exact h
theorem ss_j3 (i : Nat) : nI i * 3 = nI (3 * i) := by
  have h : nI i * nI 3 = nI (3 * i) := by rw [ss_mul, Nat.mul_comm i 3]
  exact h
theorem ss_3j (i : Nat) : 3 * nI i = nI (3 * i) := by
  have h : nI 3 * nI i = nI (3 * i) := by rw [ss_mul]
  exact h
theorem ss_2 (a : Nat) : nI a + 2 = nI (a + 2) := nI_add a 2
theorem ss_i8 (i c : Nat) : nI i * 8 + nI c = nI (8 * i + c) := by
  have h : nI i * nI 8 + nI c = nI (8 * i + c) := by rw [ss_mul, nI_add, Nat.mul_comm i 8]
  exact h
theorem ss_8i (i c : Nat) : 8 * nI i + nI c = nI (8 * i + c) := by
  have h : nI 8 * nI i + nI c = nI (8 * i + c) := by rw [ss_mul, nI_add]
  exact h
theorem ss_8j (i : Nat) : 8 * nI i = nI (8 * i) := by
  have h : nI 8 * nI i = nI (8 * i) := by rw [ss_mul]
  exact h
theorem ss_nm (n : Nat) (h : n < 2 ^ 31) : nI n ≠ -1 := by
  intro e
  have e2 : (nI n).toInt = (-1 : Int32).toInt := by rw [e]
  rw [nI_toInt h] at e2
  have e3 : (-1 : Int32).toInt = -1 := by decide
  omega
theorem ss_m0 : (-1 : Int32) < 0 := by decide
theorem ss_le (x y : Int32) : x ≤ y ↔ x.toInt ≤ y.toInt := Int32.le_iff_toInt_le
theorem ss_lt (x y : Int32) : x < y ↔ x.toInt < y.toInt := Int32.lt_iff_toInt_lt
theorem ss_eq (x y : Int32) : x = y ↔ x.toInt = y.toInt := Int32.toInt_inj.symm
theorem ss_ev : (2147483647 : Int32).toInt = 2147483647 := by decide
def ss_b (b : Bool) : Int32 := if b then 1 else 0
theorem ss_bt {b : Bool} (h : b = true) : ss_b b = 1 := by rw [h]; rfl
theorem ss_bf {b : Bool} (h : b = false) : ss_b b = 0 := by rw [h]; rfl
theorem ss_10 : ¬ (1 : Int32) = 0 := by decide
def ss_L {α : Type} (V : Nat → α) : Nat → Nat → List α
  | _, 0 => []
  | i, d + 1 => V i :: ss_L V (i + 1) d
theorem ss_Llen {α : Type} (V : Nat → α) : ∀ d i, (ss_L V i d).length = d := by
  intro d
  induction d with
  | zero => intro i; rfl
  | succ d ih => intro i; rw [ss_L, List.length_cons, ih]
theorem ss_Lmem {α : Type} (V : Nat → α) (v : α) : ∀ d i, v ∈ ss_L V i d ↔ ∃ j, i ≤ j ∧ j < i + d ∧ v = V j := by
  intro d
  induction d with
  | zero => intro i; constructor
            · intro h; exact absurd h (List.not_mem_nil)
            · intro ⟨j, h1, h2, _⟩; omega
  | succ d ih =>
    intro i
    rw [ss_L, List.mem_cons, ih]
    constructor
    · rintro (h | ⟨j, h1, h2, h3⟩)
      · exact ⟨i, by omega, by omega, h⟩
      · exact ⟨j, by omega, by omega, h3⟩
    · intro ⟨j, h1, h2, h3⟩
      by_cases e : j = i
      · subst e; exact Or.inl h3
      · exact Or.inr ⟨j, by omega, by omega, h3⟩
theorem ss_Lcon {α : Type} {V W : Nat → α} : ∀ d i, (∀ j, i ≤ j → j < i + d → V j = W j) → ss_L V i d = ss_L W i d := by
  intro d
  induction d with
  | zero => intro i _; rfl
  | succ d ih =>
    intro i h
    rw [ss_L, ss_L, h i (by omega) (by omega), ih (i + 1) (fun j h1 h2 => h j (by omega) (by omega))]
theorem ss_Lsnoc {α : Type} (V : Nat → α) : ∀ d i, ss_L V i (d + 1) = ss_L V i d ++ [V (i + d)] := by
  intro d
  induction d with
  | zero => intro i; rfl
  | succ d ih =>
    intro i
    rw [ss_L, ih (i + 1), ss_L, List.cons_append]
    have e : i + 1 + d = i + (d + 1) := by omega
    rw [e]
theorem ss_Linj {α : Type} {V W : Nat → α} : ∀ d i, ss_L V i d = ss_L W i d → ∀ j, i ≤ j → j < i + d → V j = W j := by
  intro d
  induction d with
  | zero => intro i _ j h1 h2; omega
  | succ d ih =>
    intro i h j h1 h2
    rw [ss_L, ss_L] at h
    have h' := List.cons.inj h
    by_cases e : j = i
    · subst e; exact h'.1
    · exact ih (i + 1) h'.2 j (by omega) (by omega)
theorem ss_Lmap {α β : Type} (V : Nat → α) (f : α → β) : ∀ d i, (ss_L V i d).map f = ss_L (fun j => f (V j)) i d := by
  intro d
  induction d with
  | zero => intro i; rfl
  | succ d ih => intro i; rw [ss_L, ss_L, List.map_cons, ih]
abbrev ss_V : Type := Int32 × Int32 × Int32 × Int32 × Int32 × Int32
abbrev ss_F : Type := Int32 × Int32 × Int32 × Int32
def ss_at (R F T N : Nat → Int32) (i : Nat) : ss_V := (R i, F i, T i, N (3 * i), N (3 * i + 1), N (3 * i + 2))
def ss_hd (v : ss_V) (t : Int32) : Bool := decide (v.2.1.toInt ≤ t.toInt ∧ t.toInt < v.2.2.1.toInt)
theorem ss_hd_iff {v : ss_V} {t : Int32} : ss_hd v t = true ↔ v.2.1.toInt ≤ t.toInt ∧ t.toInt < v.2.2.1.toInt := by
  unfold ss_hd; exact decide_eq_true_iff
def ss_sn (o s : Nat → Int32) (but : Int32) (v : ss_V) : Nat → Nat → Bool
  | _, 0 => false
  | i, d + 1 => (decide (¬ o i = 0 ∧ ¬ nI i = but) && ss_hd v (s i)) || ss_sn o s but v (i + 1) d
theorem ss_sn_iff {o s : Nat → Int32} {but : Int32} {v : ss_V} : ∀ d i, ss_sn o s but v i d = true ↔ ∃ t, i ≤ t ∧ t < i + d ∧ ¬ o t = 0 ∧ ¬ nI t = but ∧ ss_hd v (s t) = true := by
  intro d
  induction d with
  | zero => intro i; constructor
            · intro h; exact absurd h (by unfold ss_sn; decide)
            · intro ⟨t, h1, h2, _⟩; omega
  | succ d ih =>
    intro i
    rw [ss_sn, Bool.or_eq_true, Bool.and_eq_true, decide_eq_true_iff, ih]
    constructor
    · rintro (⟨⟨h1, h2⟩, h3⟩ | ⟨t, h1, h2, h3⟩)
      · exact ⟨i, by omega, by omega, h1, h2, h3⟩
      · exact ⟨t, by omega, by omega, h3⟩
    · intro ⟨t, h1, h2, h3, h4, h5⟩
      by_cases e : t = i
      · subst e; exact Or.inl ⟨⟨h3, h4⟩, h5⟩
      · exact Or.inr ⟨t, by omega, by omega, h3, h4, h5⟩
def ss_lv (c : Int32) (o s : Nat → Int32) (v : ss_V) : Bool := ss_hd v c || ss_sn o s (-1) v 0 4
theorem ss_lv_iff {c : Int32} {o s : Nat → Int32} {v : ss_V} : ss_lv c o s v = true ↔ ss_hd v c = true ∨ ∃ t, t < 4 ∧ ¬ o t = 0 ∧ ss_hd v (s t) = true := by
  unfold ss_lv
  rw [Bool.or_eq_true, ss_sn_iff]
  constructor
  · rintro (h | ⟨t, h1, h2, h3, h4, h5⟩)
    · exact Or.inl h
    · exact Or.inr ⟨t, by omega, h3, h5⟩
  · rintro (h | ⟨t, h1, h2, h3⟩)
    · exact Or.inl h
    · exact Or.inr ⟨t, by omega, by omega, h2, ss_nm t (by omega), h3⟩
def ss_fc (cr : Nat → Int32) (row : Int32) : Nat → Nat → Int32
  | _, 0 => -1
  | i, d + 1 => if cr i = row then nI i else ss_fc cr row (i + 1) d
def ss_in (cr : Nat → Int32) (row : Int32) : Nat → Nat → Bool
  | _, 0 => false
  | i, d + 1 => decide (cr i = row) || ss_in cr row (i + 1) d
theorem ss_in_iff {cr : Nat → Int32} {row : Int32} : ∀ d i, ss_in cr row i d = true ↔ ∃ j, i ≤ j ∧ j < i + d ∧ cr j = row := by
  intro d
  induction d with
  | zero => intro i; constructor
            · intro h; exact absurd h (by unfold ss_in; decide)
            · intro ⟨t, h1, h2, _⟩; omega
  | succ d ih =>
    intro i
    rw [ss_in, Bool.or_eq_true, decide_eq_true_iff, ih]
    constructor
    · rintro (h | ⟨t, h1, h2, h3⟩)
      · exact ⟨i, by omega, by omega, h⟩
      · exact ⟨t, by omega, by omega, h3⟩
    · intro ⟨t, h1, h2, h3⟩
      by_cases e : t = i
      · subst e; exact Or.inl h3
      · exact Or.inr ⟨t, by omega, by omega, h3⟩
theorem ss_fc_spec {cr : Nat → Int32} {row : Int32} : ∀ d i, (ss_in cr row i d = false ∧ ss_fc cr row i d = -1) ∨ (ss_in cr row i d = true ∧ ∃ j, i ≤ j ∧ j < i + d ∧ cr j = row ∧ ss_fc cr row i d = nI j) := by
  intro d
  induction d with
  | zero => intro i; exact Or.inl ⟨rfl, rfl⟩
  | succ d ih =>
    intro i
    unfold ss_in ss_fc
    by_cases z : cr i = row
    · rw [if_pos z]; exact Or.inr ⟨by rw [decide_eq_true z]; rfl, i, by omega, by omega, z, rfl⟩
    · rw [if_neg z, decide_eq_false z, Bool.false_or]
      rcases ih (i + 1) with h | ⟨h, j, h1, h2, h3⟩
      · exact Or.inl h
      · exact Or.inr ⟨h, j, by omega, by omega, h3⟩
theorem ss_fc_neg {cr : Nat → Int32} {row : Int32} {i d : Nat} (hb : i + d ≤ 32) : ss_fc cr row i d < 0 ↔ ss_in cr row i d = false := by
  rcases ss_fc_spec (cr := cr) (row := row) d i with ⟨h1, h2⟩ | ⟨h1, j, _, h3, _, h4⟩
  · rw [h1, h2]; exact ⟨fun _ => rfl, fun _ => ss_m0⟩
  · rw [h1, h4]; exact ⟨fun h => absurd h (nI_pos (by omega)), fun h => nomatch h⟩
theorem ss_fc_pos {cr : Nat → Int32} {row : Int32} {i d : Nat} (hb : i + d ≤ 32) : 0 ≤ ss_fc cr row i d ↔ ss_in cr row i d = true := by
  rcases ss_fc_spec (cr := cr) (row := row) d i with ⟨h1, h2⟩ | ⟨h1, j, _, h3, _, h4⟩
  · rw [h1, h2]; exact ⟨fun h => absurd h (by decide), fun h => nomatch h⟩
  · rw [h1, h4]; exact ⟨fun _ => rfl, fun _ => nI_pos' (by omega)⟩
def ss_op (o : Nat → Int32) (p : Int32) : Prop := ∃ j, j < 4 ∧ p = nI j ∧ ¬ o j = 0
def ss_am (p : Int32) (n : Nat) : Prop := ∃ j, j < n ∧ p = nI j
def ss_who (c : Int32) (s cc : Nat → Int32) (p : Int32) (t cnt : Nat) (tm : Int32) : Prop :=
  (p = -1 ∧ t = 0 ∧ cnt = 0 ∧ tm = c) ∨ (p = nI t ∧ t < 4 ∧ cc t = nI cnt ∧ cnt ≤ 8 ∧ tm = s t)
def ss_pr (v : ss_V) : ss_F := (v.1, v.2.2.2)
def ss_fa (fr fi : Nat → Int32) (i : Nat) : ss_F := (fr i, fi (3 * i), fi (3 * i + 1), fi (3 * i + 2))
def ss_gt (q : ss_F) (c : Nat) : Int32 := match c with
  | 0 => q.2.1
  | 1 => q.2.2.1
  | _ => q.2.2.2
theorem ss_gt_fa {fr fi : Nat → Int32} {i c : Nat} (h : c < 3) : ss_gt (ss_fa fr fi i) c = fi (3 * i + c) := by
  match c, h with
  | 0, _ => rfl
  | 1, _ => rfl
  | 2, _ => rfl
/-- the changed rows that are not gone -/
def ss_cl (cr cn cg : Nat → Int32) : Nat → Nat → List ss_F
  | _, 0 => []
  | i, d + 1 => if cg i = 0 then ss_fa cr cn i :: ss_cl cr cn cg (i + 1) d else ss_cl cr cn cg (i + 1) d
