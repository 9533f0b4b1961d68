/-- the first m values of a function -/
def fw_L {α : Type} (f : Nat → α) (m : Nat) : List α := (List.range m).map f
theorem fw_L_0 {α : Type} (f : Nat → α) : fw_L f 0 = [] := rfl
theorem fw_L_s {α : Type} (f : Nat → α) (m : Nat) : fw_L f (m + 1) = fw_L f m ++ [f m] := by
  unfold fw_L
  rw [List.range_succ, List.map_append]
  rfl
theorem fw_L_len {α : Type} (f : Nat → α) (m : Nat) : (fw_L f m).length = m := by
  unfold fw_L
  rw [List.length_map, List.length_range]
theorem fw_L_mem {α : Type} {f : Nat → α} {m : Nat} {t : α} : t ∈ fw_L f m ↔ ∃ i, i < m ∧ f i = t := by
  unfold fw_L
  simp only [List.mem_map, List.mem_range]
theorem fw_L_in {α : Type} (f : Nat → α) {i m : Nat} (h : i < m) : f i ∈ fw_L f m := fw_L_mem.mpr ⟨i, h, rfl⟩
theorem fw_L_congr {α : Type} {f g : Nat → α} {m : Nat} (h : ∀ j, j < m → f j = g j) : fw_L f m = fw_L g m := by
  unfold fw_L
  exact List.map_congr_left (fun j hj => h j (List.mem_range.mp hj))
theorem fw_rot {α : Type} (l : List α) (t : α) : (l ++ [t]).Perm (t :: l) := List.perm_append_singleton t l
/-- one value is put in another's place -/
theorem fw_set {α : Type} {f f' : Nat → α} {t : α} {i : Nat} : ∀ m, i < m → (∀ j, j < m → j ≠ i → f' j = f j) → f' i = t → (f i :: fw_L f' m).Perm (t :: fw_L f m) := by
  intro m
  induction m with
  | zero => intro h; exact absurd h (Nat.not_lt_zero _)
  | succ m ih =>
    intro hi ho ht
    rw [fw_L_s, fw_L_s]
    by_cases e : i = m
    · subst e
      have e1 : fw_L f' i = fw_L f i := fw_L_congr (fun j hj => ho j (by omega) (by omega))
      rw [e1, ht]
      exact ((fw_rot _ _).cons _).trans ((List.Perm.swap _ _ _).trans ((fw_rot _ _).symm.cons _))
    · have h := ih (by omega) (fun j hj hn => ho j (by omega) hn) ht
      rw [ho m (by omega) (fun z => e z.symm)]
      exact h.append_right [f m]
/-- a slot takes the last one's value, and the last one goes -/
theorem fw_swap {α : Type} {f f' : Nat → α} {i m : Nat} (hi : i < m + 1) (ho : ∀ j, j < m → j ≠ i → f' j = f j) (hv : i < m → f' i = f m) : (f i :: fw_L f' m).Perm (fw_L f (m + 1)) := by
  rw [fw_L_s]
  by_cases e : i = m
  · subst e
    rw [fw_L_congr (fun j hj => ho j hj (by omega))]
    exact (fw_rot _ _).symm
  · exact (fw_set m (by omega) ho (hv (by omega))).trans (fw_rot _ _).symm
/-- all behind a slot move down by one -/
theorem fw_shift {α : Type} {f f' : Nat → α} {i : Nat} : ∀ m, i < m + 1 → (∀ j, j < m → j < i → f' j = f j) → (∀ j, j < m → i ≤ j → f' j = f (j + 1)) → (f i :: fw_L f' m).Perm (fw_L f (m + 1)) := by
  intro m
  induction m with
  | zero =>
    intro hi _ _
    have e : i = 0 := by omega
    subst e
    exact List.Perm.refl _
  | succ m ih =>
    intro hi ho hv
    rw [fw_L_s f (m + 1)]
    by_cases e : i = m + 1
    · subst e
      rw [fw_L_congr (fun j hj => ho j hj (by omega))]
      exact (fw_rot _ _).symm
    · have h := ih (by omega) (fun j hj hn => ho j (by omega) hn) (fun j hj hn => hv j (by omega) hn)
      rw [fw_L_s f' m, hv m (by omega) (by omega)]
      exact h.append_right [f (m + 1)]
theorem fw_app {α : Type} {f f' : Nat → α} {t : α} {m : Nat} (ho : ∀ j, j < m → f' j = f j) (ht : f' m = t) : (fw_L f' (m + 1)).Perm (t :: fw_L f m) := by
  rw [fw_L_s, fw_L_congr ho, ht]
  exact fw_rot _ _
/-- tick upwards, a step: the value at i is kept and goes to w -/
theorem fw_keep {α : Type} {f g g' : Nat → α} {p : α → Bool} {i w : Nat} (h : fw_L g w = (fw_L f i).filter p) (hp : p (f i) = true) (ho : ∀ j, j < w → g' j = g j) (hw : g' w = f i) : fw_L g' (w + 1) = (fw_L f (i + 1)).filter p := by
  rw [fw_L_s, fw_L_congr ho, h, hw, fw_L_s, List.filter_append]
  have e : [f i].filter p = [f i] := List.filter_cons_of_pos hp
  rw [e]
theorem fw_skip {α : Type} {f g : Nat → α} {p : α → Bool} {i w : Nat} (h : fw_L g w = (fw_L f i).filter p) (hp : p (f i) = false) : fw_L g w = (fw_L f (i + 1)).filter p := by
  rw [h, fw_L_s, List.filter_append]
  have e : [f i].filter p = [] := List.filter_cons_of_neg (by rw [hp]; exact Bool.false_ne_true)
  rw [e, List.append_nil]
/-- tick downwards, a step: the value goes -/
theorem fw_gone {α : Type} {l l' l0 : List α} {p : α → Bool} {t : α} (h : (l.filter p).Perm (l0.filter p)) (hp : p t = false) (hl : (t :: l').Perm l) : (l'.filter p).Perm (l0.filter p) := by
  have e := hl.filter p
  rw [List.filter_cons_of_neg (by rw [hp]; exact Bool.false_ne_true)] at e
  exact e.trans h
theorem fw_all {α : Type} {f : Nat → α} {m : Nat} {p : α → Bool} (h : ∀ j, j < m → p (f j) = true) : (fw_L f m).filter p = fw_L f m := by
  apply List.filter_eq_self.mpr
  intro a ha
  obtain ⟨j, hj, rfl⟩ := fw_L_mem.mp ha
  exact h j hj
/-- two members with one key are one, where the keys are distinct -/
theorem fw_one {α κ : Type} {key : α → κ} {l : List α} (h : l.Pairwise (fun a b => key a ≠ key b)) : ∀ {a b : α}, a ∈ l → b ∈ l → key a = key b → a = b := by
  induction l with
  | nil => intro a b ha; exact absurd ha (List.not_mem_nil)
  | cons c l ih =>
    intro a b ha hb e
    obtain ⟨h1, h2⟩ := List.pairwise_cons.mp h
    rcases List.mem_cons.mp ha with ea | ha'
    · rcases List.mem_cons.mp hb with eb | hb'
      · exact ea.trans eb.symm
      · exact absurd e (by rw [ea]; exact h1 b hb')
    · rcases List.mem_cons.mp hb with eb | hb'
      · exact absurd e.symm (by rw [eb]; exact h1 a ha')
      · exact ih h2 ha' hb' e
