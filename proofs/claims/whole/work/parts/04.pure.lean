theorem fw_up {n m : Nat} {x : Int32} (h : fw_r n x) (hm : n ≤ m) : fw_r m x := by
  obtain ⟨a, ha, e⟩ := h
  exact ⟨a, Nat.lt_of_lt_of_le ha hm, e⟩
theorem fw_dv {n : Nat} {x : Int32} (h : fw_r n x) (hn : n ≤ 1048576) : x / 16 = x >>> ((4 : Int32) &&& 31) := by
  obtain ⟨a, ha, rfl⟩ := h
  have e1 : nI a / 16 = nI (a / 16) := pk_div (d := 16) (by omega) (by decide) (by decide)
  have e2 : nI a >>> ((4 : Int32) &&& 31) = nI (a / 2 ^ 4) := pk_shrN (by omega) _ 4 (by decide)
  rw [e1, e2]
theorem fw_md {n : Nat} {x : Int32} (h : fw_r n x) (hn : n ≤ 1048576) : x - x / 16 * 16 = x &&& 15 := by
  obtain ⟨a, ha, rfl⟩ := h
  have e1 : nI a - nI a / 16 * 16 = nI (a % 16) := pk_rem (d := 16) (by omega) (by decide) (by decide)
  have e2 : nI a &&& 15 = nI (a % 2 ^ 4) := pk_andN (by omega) 4 (by decide)
  rw [e1, e2]
theorem fw_dv4 {n : Nat} {x : Int32} (h : fw_r n x) (hn : n ≤ 1048576) : x / 4 = x >>> ((2 : Int32) &&& 31) := by
  obtain ⟨a, ha, rfl⟩ := h
  have e1 : nI a / 4 = nI (a / 4) := pk_div (d := 4) (by omega) (by decide) (by decide)
  have e2 : nI a >>> ((2 : Int32) &&& 31) = nI (a / 2 ^ 2) := pk_shrN (by omega) _ 2 (by decide)
  rw [e1, e2]
theorem fw_md4 {n : Nat} {x : Int32} (h : fw_r n x) (hn : n ≤ 1048576) : x - x / 4 * 4 = x &&& 3 := by
  obtain ⟨a, ha, rfl⟩ := h
  have e1 : nI a - nI a / 4 * 4 = nI (a % 4) := pk_rem (d := 4) (by omega) (by decide) (by decide)
  have e2 : nI a &&& 3 = nI (a % 2 ^ 2) := pk_andN (by omega) 2 (by decide)
  rw [e1, e2]
theorem fw_dv2 {n : Nat} {x : Int32} (h : fw_r n x) (hn : n ≤ 1048576) : x / 2 = x >>> ((1 : Int32) &&& 31) := by
  obtain ⟨a, ha, rfl⟩ := h
  have e1 : nI a / 2 = nI (a / 2) := pk_div (d := 2) (by omega) (by decide) (by decide)
  have e2 : nI a >>> ((1 : Int32) &&& 31) = nI (a / 2 ^ 1) := pk_shrN (by omega) _ 1 (by decide)
  rw [e1, e2]
theorem fw_md2 {n : Nat} {x : Int32} (h : fw_r n x) (hn : n ≤ 1048576) : x - x / 2 * 2 = x &&& 1 := by
  obtain ⟨a, ha, rfl⟩ := h
  have e1 : nI a - nI a / 2 * 2 = nI (a % 2) := pk_rem (d := 2) (by omega) (by decide) (by decide)
  have e2 : nI a &&& 1 = nI (a % 2 ^ 1) := pk_andN (by omega) 1 (by decide)
  rw [e1, e2]
theorem fw_lo {a : Nat} (h : a < 1048576) : nI a &&& 15 = nI (a % 16) := pk_andN (by omega) 4 (by decide)
theorem fw_hi {a : Nat} (h : a < 1048576) : nI a >>> ((4 : Int32) &&& 31) = nI (a / 16) := pk_shrN (by omega) _ 4 (by decide)
/-- a rule's address part and an address -/
def fw_pm (pre x : Int32) : Bool := decide (x >>> ((4 - (pre >>> ((4 : Int32) &&& 31))) &&& 31) = (pre &&& 15) >>> ((4 - (pre >>> ((4 : Int32) &&& 31))) &&& 31))
def fw_pq (c q : Int32) : Bool := decide ((c &&& 15) ≤ q) && decide (q ≤ c >>> ((4 : Int32) &&& 31))
def fw_pp (d p : Int32) : Bool := decide ((d &&& 3) = 2) || decide ((d &&& 3) = p)
/-- a rule matches a tuple -/
def fw_m (a b c d s t q p : Int32) : Bool := fw_pm a s && (fw_pm b t && (fw_pq c q && fw_pp d p))
def fw_b (b : Bool) : Int32 := if b = true then 1 else 0
theorem fw_b1 {b : Bool} (h : b = true) : fw_b b = 1 := if_pos h
theorem fw_b0 {b : Bool} (h : b = false) : fw_b b = 0 := if_neg (by rw [h]; exact Bool.false_ne_true)
theorem fw_bz {b : Bool} : fw_b b = 0 ↔ b = false := by cases b <;> decide
theorem fw_br {b : Bool} {A B : Prop} (f : b = false → A) (g : b = true → B) : (fw_b b = 0 → A) ∧ (¬ fw_b b = 0 → B) := by
  cases b
  · exact br_t rfl (f rfl)
  · exact br_f (by decide) (g rfl)
/-- the first from i on, of d, at which M holds -/
def fw_ff (M : Nat → Bool) : Nat → Nat → Nat
  | 0, i => i
  | d + 1, i => if M i = true then i else fw_ff M d (i + 1)
theorem fw_ff_t {M : Nat → Bool} {d i : Nat} (h : M i = true) : fw_ff M (d + 1) i = i := if_pos h
theorem fw_ff_f {M : Nat → Bool} {d i : Nat} (h : M i = false) : fw_ff M (d + 1) i = fw_ff M d (i + 1) := if_neg (by rw [h]; exact Bool.false_ne_true)
theorem fw_ff_spec (M : Nat → Bool) : ∀ d i, i ≤ fw_ff M d i ∧ fw_ff M d i ≤ i + d ∧ (∀ j, i ≤ j → j < fw_ff M d i → M j = false) ∧ (fw_ff M d i < i + d → M (fw_ff M d i) = true) := by
  intro d
  induction d with
  | zero => exact fun i => ⟨Nat.le_refl _, Nat.le_refl _, fun j h1 h2 => absurd h2 (Nat.not_lt.mpr h1), fun h => absurd h (Nat.lt_irrefl _)⟩
  | succ d ih =>
    intro i
    cases e : M i with
    | true =>
      rw [fw_ff_t e]
      exact ⟨Nat.le_refl _, by omega, fun j h1 h2 => absurd h2 (Nat.not_lt.mpr h1), fun _ => e⟩
    | false =>
      rw [fw_ff_f e]
      obtain ⟨h1, h2, h3, h4⟩ := ih (i + 1)
      refine ⟨by omega, by omega, fun j hj hl => ?_, fun h => h4 (by omega)⟩
      by_cases z : j = i
      · rw [z]; exact e
      · exact h3 j (by omega) hl
theorem fw_ff_iff (M : Nat → Bool) {n k : Nat} (hk : k < n) : fw_ff M n 0 = k ↔ M k = true ∧ ∀ j, j < k → M j = false := by
  obtain ⟨h1, h2, h3, h4⟩ := fw_ff_spec M n 0
  constructor
  · intro e
    subst e
    exact ⟨h4 (by omega), fun j hj => h3 j (Nat.zero_le _) hj⟩
  · intro ⟨a, b⟩
    apply Nat.le_antisymm
    · apply Nat.le_of_not_lt
      intro z
      have h5 := h3 k (Nat.zero_le _) z
      rw [a] at h5
      exact Bool.noConfusion h5
    · apply Nat.le_of_not_lt
      intro z
      have h5 := h4 (by omega)
      rw [b _ z] at h5
      exact Bool.noConfusion h5
theorem fw_ff_congr {M M' : Nat → Bool} : ∀ d i, (∀ j, i ≤ j → j < i + d → M j = M' j) → fw_ff M d i = fw_ff M' d i := by
  intro d
  induction d with
  | zero => exact fun _ _ => rfl
  | succ d ih =>
    intro i h
    cases e : M i with
    | true => rw [fw_ff_t e, fw_ff_t ((h i (by omega) (by omega)).symm.trans e)]
    | false => rw [fw_ff_f e, fw_ff_f ((h i (by omega) (by omega)).symm.trans e), ih (i + 1) (fun j h1 h2 => h j (by omega) (by omega))]
/-- the index that decides, or -2; its action, or the default -/
def fw_ix (v n : Nat) : Int32 := if v < n then nI v else -2
def fw_ac (v n : Nat) (rA : Nat → Int32) (da : Int32) : Int32 := if v < n then (rA v) >>> ((2 : Int32) &&& 31) else da
/-- a rule left out -/
def fw_lo1 (L : Int32) (M : Nat → Bool) : Nat → Bool := fun i => !decide (nI i = L) && M i
theorem fw_lo1_m {M : Nat → Bool} {n : Nat} (hn : n ≤ 16) : fw_ff (fw_lo1 (-1) M) n 0 = fw_ff M n 0 := by
  apply fw_ff_congr
  intro j _ hj
  have e : ¬ nI j = -1 := by
    intro z
    have h1 : ¬ nI j < 0 := nI_pos (by omega)
    rw [z] at h1
    exact h1 (by decide)
  unfold fw_lo1
  rw [decide_eq_false e]
  rfl
/-- the time that a state lasts -/
def fw_to (st : Int32) : Int32 := if st = 1 then 6 else if st = 2 then 6 else if st = 3 then 40 else if st = 4 then 12 else if st = 5 then 12 else if st = 6 then 12 else if st = 7 then 4 else if st = 8 then 10 else 30
def fw_iw (seq nx : Int32) : Bool := decide (((seq - nx) &&& 255) < 32)
def fw_rt (seq nx : Int32) : Bool := decide (seq = ((nx + 255) &&& 255))
def fw_fin (st d : Int32) : Int32 := if st = 3 then (if d = 0 then 4 else 5) else if st = (if d = 0 then 5 else 4) then 6 else st
/-- the state after a packet of an entry, or 0 -/
def fw_sa (st d fl seq nx : Int32) : Int32 :=
  if st = 1 then (if d = 0 then (if fl = 1 ∧ fw_rt seq nx = true then 1 else 0) else (if fl = 3 then 2 else 0))
  else if st = 2 then (if d = 0 then (if fl = 2 ∧ fw_iw seq nx = true then 3 else 0) else (if fl = 3 ∧ fw_rt seq nx = true then 2 else 0))
  else if fw_iw seq nx = true then (if fl = 2 then (if st = 6 then 7 else st) else if fl = 6 then fw_fin st d else 0)
  else 0
theorem fw_sa_ok {st : Int32} (h : ∃ k : Nat, k < 7 ∧ st = nI (k + 1)) (d fl seq nx : Int32) : fw_sa st d fl seq nx = 0 ∨ ∃ k : Nat, k < 7 ∧ fw_sa st d fl seq nx = nI (k + 1) := by
  unfold fw_sa fw_fin
  repeat' split
  all_goals first
    | exact Or.inl rfl
    | exact Or.inr h
    | exact Or.inr ⟨0, by decide, rfl⟩
    | exact Or.inr ⟨1, by decide, rfl⟩
    | exact Or.inr ⟨2, by decide, rfl⟩
    | exact Or.inr ⟨3, by decide, rfl⟩
    | exact Or.inr ⟨4, by decide, rfl⟩
    | exact Or.inr ⟨5, by decide, rfl⟩
    | exact Or.inr ⟨6, by decide, rfl⟩
def fw_in (x h : Int32) : Bool := decide (¬ x < 0) && decide (x ≤ h)
theorem fw_in_r {x : Int32} (k : Nat) (hk : k < 1048576) : fw_in x (nI k) = true ↔ fw_r (k + 1) x := by
  unfold fw_in
  rw [Bool.and_eq_true, decide_eq_true_eq, decide_eq_true_eq]
  constructor
  · intro ⟨a, b⟩
    obtain ⟨j, hj, rfl⟩ := nI_of a
    rw [nI_leI hj (by omega)] at b
    exact ⟨j, by omega, rfl⟩
  · intro ⟨j, hj, e⟩
    subst e
    exact ⟨nI_pos (by omega), nI_le (by omega) (by omega)⟩
theorem fw_in_n {x : Int32} {n : Nat} (hn : n ≤ 16) : fw_in x (nI n - 1) = true ↔ fw_r n x := by
  cases n with
  | zero =>
    constructor
    · unfold fw_in
      rw [Bool.and_eq_true, decide_eq_true_eq, decide_eq_true_eq]
      intro ⟨a, b⟩
      exact absurd (Int32.lt_of_le_of_lt b (by decide)) a
    · intro ⟨j, hj, _⟩
      exact absurd hj (Nat.not_lt_zero _)
  | succ n => rw [nI_pred]; exact fw_in_r n (by omega)
/-- what stands behind the division of an address part -/
def fw_bd (p : Int32) : Int32 := (1 : Int32) <<< ((4 - (p >>> ((4 : Int32) &&& 31))) &&& 31)
theorem fw_bd5 : ∀ b : Nat, b < 5 → ¬ ((1 : Int32) <<< ((4 - nI b) &&& 31)) = 0 := by decide +kernel
theorem fw_bd0 {p : Int32} (h : fw_r 80 p) : ¬ fw_bd p = 0 := by
  obtain ⟨a, ha, rfl⟩ := h
  unfold fw_bd
  rw [fw_hi (by omega)]
  exact fw_bd5 (a / 16) (by omega)
def fw_vp (p : Int32) : Bool := fw_in p 79 && decide ((p &&& 15) - (p &&& 15) / fw_bd p * fw_bd p = 0)
def fw_vq (c : Int32) : Bool := fw_in c 255 && decide ((c &&& 15) ≤ c >>> ((4 : Int32) &&& 31))
def fw_va (d : Int32) : Bool := fw_in d 7 && !decide ((d &&& 3) = 3)
theorem fw_vk {a b c d : Int32} (h1 : fw_vp a = true) (h2 : fw_vp b = true) (h3 : fw_vq c = true) (h4 : fw_va d = true) : fw_r 80 a ∧ fw_r 80 b ∧ fw_r 256 c ∧ (c &&& 15) ≤ c >>> ((4 : Int32) &&& 31) ∧ fw_r 8 d ∧ ¬ (d &&& 3) = 3 := by
  unfold fw_vp at h1 h2
  unfold fw_vq at h3
  unfold fw_va at h4
  rw [Bool.and_eq_true] at h1 h2 h3 h4
  exact ⟨(fw_in_r 79 (by decide)).mp h1.1, (fw_in_r 79 (by decide)).mp h2.1, (fw_in_r 255 (by decide)).mp h3.1, of_decide_eq_true h3.2, (fw_in_r 7 (by decide)).mp h4.1, by
    intro z
    have h5 := h4.2
    rw [decide_eq_true z] at h5
    exact Bool.noConfusion h5⟩
def fw_hd (a b p : Int32) : Bool := fw_in a 255 && (fw_in b 255 && fw_in p 1)
theorem fw_hd_r {a b p : Int32} (h : fw_hd a b p = true) : fw_r 256 a ∧ fw_r 256 b ∧ fw_r 2 p := by
  unfold fw_hd at h
  rw [Bool.and_eq_true, Bool.and_eq_true] at h
  exact ⟨(fw_in_r 255 (by decide)).mp h.1, (fw_in_r 255 (by decide)).mp h.2.1, (fw_in_r 1 (by decide)).mp h.2.2⟩
/-- the rules of the reference, matched against a tuple -/
def fw_M (rS rD rP rA : Nat → Int32) (s t q p : Int32) : Nat → Bool := fun i => fw_m (rS i) (rD i) (rP i) (rA i) s t q p
theorem fw_nb (b : Bool) : narrow .boolean (.int (fw_b b)) = .int (fw_b b) := by cases b <;> rfl
