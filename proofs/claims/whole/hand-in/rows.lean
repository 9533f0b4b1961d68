section
theorem pk_us {f : Nat → Int32} {k : Nat} {x : Int32} : upd f k x k = x := if_pos rfl
theorem pk_un {f : Nat → Int32} {k j : Nat} {x : Int32} (h : j ≠ k) : upd f k x j = f j := if_neg h
theorem pk_sub {a b : Nat} (h : b ≤ a) : nI a - nI b = nI (a - b) := by
  obtain ⟨c, rfl⟩ : ∃ c, a = c + b := ⟨a - b, by omega⟩
  rw [← nI_add, Int32.add_sub_cancel, Nat.add_sub_cancel]
theorem pk_m1 (n : Nat) : nI (n + 1) + (-1) = nI n := by
  rw [← nI_1, Int32.add_assoc, show (1 : Int32) + (-1) = 0 from rfl, Int32.add_zero]
theorem pk_mul (a b : Nat) : nI a * nI b = nI (a * b) := (Int32.ofNat_mul a b).symm
theorem pk_div {a d : Nat} (ha : a < 2 ^ 31) (h0 : 0 < d) (hd : d < 2 ^ 31) : nI a / nI d = nI (a / d) := by
  apply Int32.toInt_inj.mp
  rw [lg_idiv_nonneg (by rw [nI_toInt ha]; omega) (by rw [nI_toInt hd]; omega), nI_toInt ha, nI_toInt hd, nI_toInt (Nat.lt_of_le_of_lt (Nat.div_le_self a d) ha)]
  first | rfl | exact (Int.natCast_ediv _ _).symm
theorem pk_rem {a d : Nat} (ha : a < 2 ^ 31) (h0 : 0 < d) (hd : d < 2 ^ 31) : nI a - nI a / nI d * nI d = nI (a % d) := by
  rw [pk_div ha h0 hd, pk_mul, pk_sub (Nat.div_mul_le_self a d)]
  exact congrArg nI (by have := Nat.div_add_mod' a d; omega)
theorem pk_sub_toInt {a b : Nat} (ha : a < 2 ^ 30) (hb : b < 2 ^ 30) : (nI a - nI b).toInt = (a : Int) - b := by
  rw [Int32.toInt_sub, nI_toInt (by omega), nI_toInt (by omega)]
  exact Int.bmod_eq_of_le (by omega) (by omega)
theorem pk_ix (x : Int32) {n : Nat} (hn : n < 2 ^ 31) : x < 0 ∨ nI n ≤ x ∨ ∃ j : Nat, j < n ∧ x = nI j := by
  by_cases h : x < 0
  · exact Or.inl h
  · obtain ⟨j, hj, rfl⟩ := nI_of h
    by_cases h2 : j < n
    · exact Or.inr (Or.inr ⟨j, h2, rfl⟩)
    · exact Or.inr (Or.inl (nI_le (by omega) hj))
theorem pk_le {x y : Int32} {A B : Prop} (a b : Nat) (f : a ≤ b → A) (g : b < a → B) (hx : x = nI a := by rfl) (hy : y = nI b := by rfl) (ha : a < 2 ^ 31 := by omega) (hb : b < 2 ^ 31 := by omega) : (x ≤ y → A) ∧ (¬ x ≤ y → B) := by
  subst hx hy
  rw [nI_leI ha hb]
  exact ⟨f, fun z => g (by omega)⟩
theorem pk_lt {x y : Int32} {A B : Prop} (a b : Nat) (f : a < b → A) (g : b ≤ a → B) (hx : x = nI a := by rfl) (hy : y = nI b := by rfl) (ha : a < 2 ^ 31 := by omega) (hb : b < 2 ^ 31 := by omega) : (x < y → A) ∧ (¬ x < y → B) := by
  subst hx hy
  rw [nI_ltI ha hb]
  exact ⟨f, fun z => g (by omega)⟩
theorem pk_eq {x y : Int32} {A B : Prop} (a b : Nat) (f : a = b → A) (g : a ≠ b → B) (hx : x = nI a := by rfl) (hy : y = nI b := by rfl) (ha : a < 2 ^ 31 := by omega) (hb : b < 2 ^ 31 := by omega) : (x = y → A) ∧ (¬ x = y → B) := by
  subst hx hy
  rw [nI_eq ha hb]
  exact ⟨f, g⟩
theorem pk_in {x : Int32} (n N : Nat) (h : n < N) (hx : x = nI n := by rfl) (hN : N < 2 ^ 31 := by omega) : vp_in x N := by
  subst hx
  exact vp_in_nI h hN
theorem pk_cl {x : Int32} (n : Nat) (hx : x = nI n := by rfl) (h : n < 2 ^ 31 := by omega) : x.toNatClampNeg = n := by
  subst hx
  exact nI_clamp h
theorem pk_tn {n : Nat} (h : n < 2 ^ 32) : (nI n).toBitVec.toNat = n := Nat.mod_eq_of_lt h
theorem pk_and (x : Int32) {m : Int32} (k : Nat) (hm : m.toBitVec.toNat = 2 ^ k - 1) : x &&& m = nI (x.toBitVec.toNat % 2 ^ k) := by
  apply Int32.toBitVec_inj.mp
  apply BitVec.eq_of_toNat_eq
  rw [Int32.toBitVec_and, BitVec.toNat_and, hm, Nat.and_two_pow_sub_one_eq_mod]
  show _ = (BitVec.ofNat 32 _).toNat
  rw [BitVec.toNat_ofNat]
  exact (Nat.mod_eq_of_lt (Nat.lt_of_le_of_lt (Nat.mod_le _ _) x.toBitVec.isLt)).symm
theorem pk_andN {n : Nat} (h : n < 2 ^ 32) {m : Int32} (k : Nat) (hm : m.toBitVec.toNat = 2 ^ k - 1) : nI n &&& m = nI (n % 2 ^ k) := by
  rw [pk_and _ k hm, pk_tn h]
theorem pk_andE (x : Int32) {m : Int32} (k : Nat) (hm : m.toBitVec.toNat = 2 ^ k - 1) : ∃ j : Nat, j < 2 ^ k ∧ x &&& m = nI j := ⟨_, Nat.mod_lt _ (Nat.two_pow_pos k), pk_and x k hm⟩
theorem pk_shl (a s : Int32) (k : Nat) (hs : (s.toBitVec.smod 32).toNat = k) : (a <<< s).toBitVec.toNat = a.toBitVec.toNat * 2 ^ k % 2 ^ 32 := by
  show (a.toBitVec <<< (s.toBitVec.smod 32).toNat).toNat = _
  rw [hs, BitVec.toNat_shiftLeft, Nat.shiftLeft_eq]
theorem pk_shlN {n : Nat} (s : Int32) (k : Nat) (hs : (s.toBitVec.smod 32).toNat = k) (h : n * 2 ^ k < 2 ^ 32) : nI n <<< s = nI (n * 2 ^ k) := by
  apply Int32.toBitVec_inj.mp
  apply BitVec.eq_of_toNat_eq
  have hn : n < 2 ^ 32 := Nat.lt_of_le_of_lt (Nat.le_mul_of_pos_right n (Nat.two_pow_pos k)) h
  rw [pk_shl _ _ k hs, pk_tn hn, pk_tn h, Nat.mod_eq_of_lt h]
theorem pk_shr (a s : Int32) (k : Nat) (hs : (s.toBitVec.smod 32).toNat = k) : (a >>> s).toInt = a.toInt >>> k := by
  show (a.toBitVec.sshiftRight (s.toBitVec.smod 32).toNat).toInt = _
  rw [hs, BitVec.toInt_sshiftRight]
  rfl
theorem pk_shrN {n : Nat} (h : n < 2 ^ 31) (s : Int32) (k : Nat) (hs : (s.toBitVec.smod 32).toNat = k) : nI n >>> s = nI (n / 2 ^ k) := by
  apply Int32.toInt_inj.mp
  have h2 : n / 2 ^ k ≤ n := Nat.div_le_self _ _
  rw [pk_shr _ _ k hs, nI_toInt h, nI_toInt (by omega), Int.shiftRight_eq_div_pow]
  rfl
theorem pk_loop {σ : Type} (W : Nat → Nat → σ → Prop) (I : Nat → σ → Prop) (e i0 : Nat) (s : σ) (hi : i0 ≤ e) (h0 : I i0 s) (hx : ∀ n s, I e s → W (n + 1) e s)
    (hs : ∀ n i s, i < e → I i s → (∀ s', I (i + 1) s' → W n (i + 1) s') → W (n + 1) i s) : ∃ n, W n i0 s :=
  ⟨e + 1, loop_i W I e hx hs (e + 1) i0 s hi (by omega) h0⟩
theorem pk_loopD {σ : Type} (W : Nat → Nat → σ → Prop) (I : Nat → σ → Prop) (hx : ∀ n s, I 0 s → W (n + 1) 0 s)
    (hs : ∀ n i s, I (i + 1) s → (∀ s', I i s' → W n i s') → W (n + 1) (i + 1) s) : ∀ (e : Nat) (s : σ), I e s → W (e + 1) e s := by
  intro e
  induction e with
  | zero => exact fun s h => hx 0 s h
  | succ e ih => exact fun s h => hs (e + 1) e s h (fun s' h' => ih s' h')
end
section
/-- the first m values of a function -/
def fw_L {α : Type} (f : Nat → α) (m : Nat) : List α := (List.range m).map f
theorem fw_L_0 {α : Type} (f : Nat → α) : fw_L f 0 = [] := rfl
theorem fw_L_s {α : Type} (f : Nat → α) (m : Nat) : fw_L f (m + 1) = fw_L f m ++ [f m] := by
  unfold fw_L
  rw [List.range_succ, List.map_append]
  rfl
theorem fw_L_len {α : Type} (f : Nat → α) (m : Nat) : (fw_L f m).length = m := by
  unfold fw_L
  rw [List.length_map, List.length_range]
theorem fw_L_mem {α : Type} {f : Nat → α} {m : Nat} {t : α} : t ∈ fw_L f m ↔ ∃ i, i < m ∧ f i = t := by
  unfold fw_L
  simp only [List.mem_map, List.mem_range]
theorem fw_L_in {α : Type} (f : Nat → α) {i m : Nat} (h : i < m) : f i ∈ fw_L f m := fw_L_mem.mpr ⟨i, h, rfl⟩
theorem fw_L_congr {α : Type} {f g : Nat → α} {m : Nat} (h : ∀ j, j < m → f j = g j) : fw_L f m = fw_L g m := by
  unfold fw_L
  exact List.map_congr_left (fun j hj => h j (List.mem_range.mp hj))
theorem fw_rot {α : Type} (l : List α) (t : α) : (l ++ [t]).Perm (t :: l) := List.perm_append_singleton t l
/-- one value is put in another's place -/
theorem fw_set {α : Type} {f f' : Nat → α} {t : α} {i : Nat} : ∀ m, i < m → (∀ j, j < m → j ≠ i → f' j = f j) → f' i = t → (f i :: fw_L f' m).Perm (t :: fw_L f m) := by
  intro m
  induction m with
  | zero => intro h; exact absurd h (Nat.not_lt_zero _)
  | succ m ih =>
    intro hi ho ht
    rw [fw_L_s, fw_L_s]
    by_cases e : i = m
    · subst e
      have e1 : fw_L f' i = fw_L f i := fw_L_congr (fun j hj => ho j (by omega) (by omega))
      rw [e1, ht]
      exact ((fw_rot _ _).cons _).trans ((List.Perm.swap _ _ _).trans ((fw_rot _ _).symm.cons _))
    · have h := ih (by omega) (fun j hj hn => ho j (by omega) hn) ht
      rw [ho m (by omega) (fun z => e z.symm)]
      exact h.append_right [f m]
/-- a slot takes the last one's value, and the last one goes -/
theorem fw_swap {α : Type} {f f' : Nat → α} {i m : Nat} (hi : i < m + 1) (ho : ∀ j, j < m → j ≠ i → f' j = f j) (hv : i < m → f' i = f m) : (f i :: fw_L f' m).Perm (fw_L f (m + 1)) := by
  rw [fw_L_s]
  by_cases e : i = m
  · subst e
    rw [fw_L_congr (fun j hj => ho j hj (by omega))]
    exact (fw_rot _ _).symm
  · exact (fw_set m (by omega) ho (hv (by omega))).trans (fw_rot _ _).symm
/-- all behind a slot move down by one -/
theorem fw_shift {α : Type} {f f' : Nat → α} {i : Nat} : ∀ m, i < m + 1 → (∀ j, j < m → j < i → f' j = f j) → (∀ j, j < m → i ≤ j → f' j = f (j + 1)) → (f i :: fw_L f' m).Perm (fw_L f (m + 1)) := by
  intro m
  induction m with
  | zero =>
    intro hi _ _
    have e : i = 0 := by omega
    subst e
    exact List.Perm.refl _
  | succ m ih =>
    intro hi ho hv
    rw [fw_L_s f (m + 1)]
    by_cases e : i = m + 1
    · subst e
      rw [fw_L_congr (fun j hj => ho j hj (by omega))]
      exact (fw_rot _ _).symm
    · have h := ih (by omega) (fun j hj hn => ho j (by omega) hn) (fun j hj hn => hv j (by omega) hn)
      rw [fw_L_s f' m, hv m (by omega) (by omega)]
      exact h.append_right [f (m + 1)]
theorem fw_app {α : Type} {f f' : Nat → α} {t : α} {m : Nat} (ho : ∀ j, j < m → f' j = f j) (ht : f' m = t) : (fw_L f' (m + 1)).Perm (t :: fw_L f m) := by
  rw [fw_L_s, fw_L_congr ho, ht]
  exact fw_rot _ _
/-- tick upwards, a step: the value at i is kept and goes to w -/
theorem fw_keep {α : Type} {f g g' : Nat → α} {p : α → Bool} {i w : Nat} (h : fw_L g w = (fw_L f i).filter p) (hp : p (f i) = true) (ho : ∀ j, j < w → g' j = g j) (hw : g' w = f i) : fw_L g' (w + 1) = (fw_L f (i + 1)).filter p := by
  rw [fw_L_s, fw_L_congr ho, h, hw, fw_L_s, List.filter_append]
  have e : [f i].filter p = [f i] := List.filter_cons_of_pos hp
  rw [e]
theorem fw_skip {α : Type} {f g : Nat → α} {p : α → Bool} {i w : Nat} (h : fw_L g w = (fw_L f i).filter p) (hp : p (f i) = false) : fw_L g w = (fw_L f (i + 1)).filter p := by
  rw [h, fw_L_s, List.filter_append]
  have e : [f i].filter p = [] := List.filter_cons_of_neg (by rw [hp]; exact Bool.false_ne_true)
  rw [e, List.append_nil]
/-- tick downwards, a step: the value goes -/
theorem fw_gone {α : Type} {l l' l0 : List α} {p : α → Bool} {t : α} (h : (l.filter p).Perm (l0.filter p)) (hp : p t = false) (hl : (t :: l').Perm l) : (l'.filter p).Perm (l0.filter p) := by
  have e := hl.filter p
  rw [List.filter_cons_of_neg (by rw [hp]; exact Bool.false_ne_true)] at e
  exact e.trans h
theorem fw_all {α : Type} {f : Nat → α} {m : Nat} {p : α → Bool} (h : ∀ j, j < m → p (f j) = true) : (fw_L f m).filter p = fw_L f m := by
  apply List.filter_eq_self.mpr
  intro a ha
  obtain ⟨j, hj, rfl⟩ := fw_L_mem.mp ha
  exact h j hj
/-- two members with one key are one, where the keys are distinct -/
theorem fw_one {α κ : Type} {key : α → κ} {l : List α} (h : l.Pairwise (fun a b => key a ≠ key b)) : ∀ {a b : α}, a ∈ l → b ∈ l → key a = key b → a = b := by
  induction l with
  | nil => intro a b ha; exact absurd ha (List.not_mem_nil)
  | cons c l ih =>
    intro a b ha hb e
    obtain ⟨h1, h2⟩ := List.pairwise_cons.mp h
    rcases List.mem_cons.mp ha with ea | ha'
    · rcases List.mem_cons.mp hb with eb | hb'
      · exact ea.trans eb.symm
      · exact absurd e (by rw [ea]; exact h1 b hb')
    · rcases List.mem_cons.mp hb with eb | hb'
      · exact absurd e.symm (by rw [eb]; exact h1 a ha')
      · exact ih h2 ha' hb' e
end
section
/-- an int that is a natural below n -/
def fw_r (n : Nat) (x : Int32) : Prop := ∃ a : Nat, a < n ∧ x = nI a
/-- an entry as the component keeps it: protocol, addresses, ports, state, expiry, next of origin, next of reply -/
abbrev fw_T : Type := Int32 × Int32 × Int32 × Int32 × Int32 × Int32 × Int32
/-- as the reference keeps it: protocol, source, its port, destination, its port, state, expiry, next of origin, of reply -/
abbrev fw_U : Type := Int32 × Int32 × Int32 × Int32 × Int32 × Int32 × Int32 × Int32 × Int32
def fw_XT (pr ad po st ex nx : Nat → Int32) (i : Nat) : fw_T := (pr i, ad i, po i, st i, ex i, nx (2 * i), nx (2 * i + 1))
def fw_YT (pr os op od oq st ex n0 n1 : Nat → Int32) (i : Nat) : fw_U := (pr i, os i, op i, od i, oq i, st i, ex i, n0 i, n1 i)
def fw_g : fw_U → fw_T := fun (pr, os, op, od, oq, st, ex, n0, n1) => (pr, os + 16 * od, op + 16 * oq, st, ex, if pr = 1 then -1 else n0, if pr = 1 then -1 else n1)
def fw_key : fw_T → Int32 × Int32 × Int32 := fun (pr, ad, po, _, _, _, _) => (pr, ad, po)
/-- a next sequence number: unset, or of a byte -/
def fw_N (x : Int32) : Prop := x = -1 ∨ fw_r 256 x
def fw_okX : fw_T → Prop := fun (pr, ad, po, st, _, n0, n1) =>
  (pr = 0 ∨ pr = 1) ∧ fw_r 256 ad ∧ fw_r 256 po ∧ (pr = 0 → ∃ k : Nat, k < 7 ∧ st = nI (k + 1)) ∧ fw_N n0 ∧ fw_N n1 ∧ (pr = 1 → n0 = -1 ∧ n1 = -1)
def fw_okY : fw_U → Prop := fun (_, os, op, od, oq, _, _, _, _) => fw_r 16 os ∧ fw_r 16 op ∧ fw_r 16 od ∧ fw_r 16 oq
/-- the two tables of entries hold the same -/
def fw_E (lx : List fw_T) (ly : List fw_U) : Prop :=
  lx.Perm (ly.map fw_g) ∧ (∀ t, t ∈ lx → fw_okX t) ∧ (∀ s, s ∈ ly → fw_okY s) ∧ lx.Pairwise (fun a b => fw_key a ≠ fw_key b)
theorem fw_E_0 : fw_E [] [] := ⟨List.Perm.refl _, fun _ h => absurd h List.not_mem_nil, fun _ h => absurd h List.not_mem_nil, List.Pairwise.nil⟩
theorem fw_ksym : ∀ {a b : fw_T}, fw_key a ≠ fw_key b → fw_key b ≠ fw_key a := fun h e => h e.symm
theorem fw_split {α : Type} {l : List α} {t : α} (h : t ∈ l) : ∃ r : List α, l.Perm (t :: r) := by
  obtain ⟨a, b, rfl⟩ := List.append_of_mem h
  exact ⟨a ++ b, List.perm_middle⟩
theorem fw_E_upd {lx lx' : List fw_T} {ly ly' : List fw_U} {t t' : fw_T} {s s' : fw_U} (E : fw_E lx ly) (ht : t ∈ lx)
    (hx : (t :: lx').Perm (t' :: lx)) (hy : (s :: ly').Perm (s' :: ly)) (e : fw_g s = t) (e' : fw_g s' = t') (ok : fw_okX t') (oky : fw_okY s') (ek : fw_key t' = fw_key t) : fw_E lx' ly' := by
  obtain ⟨p, a, b, c⟩ := E
  refine ⟨?_, ?_, ?_, ?_⟩
  · have h1 : (t' :: lx).Perm ((s' :: ly).map fw_g) := by
      rw [List.map_cons, e']
      exact p.cons _
    have h2 := (hx.trans h1).trans ((hy.map fw_g).symm)
    rw [List.map_cons, e] at h2
    exact h2.cons_inv
  · intro z hz
    have h1 : z ∈ t' :: lx := hx.mem_iff.mp (List.mem_cons_of_mem _ hz)
    rcases List.mem_cons.mp h1 with rfl | h1
    · exact ok
    · exact a z h1
  · intro z hz
    have h1 : z ∈ s' :: ly := hy.mem_iff.mp (List.mem_cons_of_mem _ hz)
    rcases List.mem_cons.mp h1 with rfl | h1
    · exact oky
    · exact b z h1
  · obtain ⟨r, hr⟩ := fw_split ht
    have h1 : (t :: lx').Perm (t :: t' :: r) := (hx.trans (hr.cons t')).trans (List.Perm.swap _ _ _)
    have h2 : lx'.Perm (t' :: r) := h1.cons_inv
    have h3 := c.perm hr fw_ksym
    obtain ⟨h4, h5⟩ := List.pairwise_cons.mp h3
    have h6 : (t' :: r).Pairwise (fun a b => fw_key a ≠ fw_key b) := List.pairwise_cons.mpr ⟨fun z hz => by rw [ek]; exact h4 z hz, h5⟩
    exact h6.perm h2.symm fw_ksym
theorem fw_E_del {lx lx' : List fw_T} {ly ly' : List fw_U} {t : fw_T} {s : fw_U} (E : fw_E lx ly)
    (hx : (t :: lx').Perm lx) (hy : (s :: ly').Perm ly) (e : fw_g s = t) : fw_E lx' ly' := by
  obtain ⟨p, a, b, c⟩ := E
  refine ⟨?_, fun z hz => a z (hx.mem_iff.mp (List.mem_cons_of_mem _ hz)), fun z hz => b z (hy.mem_iff.mp (List.mem_cons_of_mem _ hz)), ?_⟩
  · have h2 := (hx.trans p).trans ((hy.map fw_g).symm)
    rw [List.map_cons, e] at h2
    exact h2.cons_inv
  · exact (List.pairwise_cons.mp (c.perm hx.symm fw_ksym)).2
theorem fw_E_new {lx lx' : List fw_T} {ly ly' : List fw_U} {t : fw_T} {s : fw_U} (E : fw_E lx ly)
    (hx : lx'.Perm (t :: lx)) (hy : ly'.Perm (s :: ly)) (e : fw_g s = t) (ok : fw_okX t) (oky : fw_okY s) (hk : ∀ z, z ∈ lx → fw_key t ≠ fw_key z) : fw_E lx' ly' := by
  obtain ⟨p, a, b, c⟩ := E
  refine ⟨?_, ?_, ?_, ?_⟩
  · have h1 : (t :: lx).Perm ((s :: ly).map fw_g) := by
      rw [List.map_cons, e]
      exact p.cons _
    exact (hx.trans h1).trans ((hy.map fw_g).symm)
  · intro z hz
    rcases List.mem_cons.mp (hx.mem_iff.mp hz) with rfl | h1
    · exact ok
    · exact a z h1
  · intro z hz
    rcases List.mem_cons.mp (hy.mem_iff.mp hz) with rfl | h1
    · exact oky
    · exact b z h1
  · have h6 : (t :: lx).Pairwise (fun a b => fw_key a ≠ fw_key b) := List.pairwise_cons.mpr ⟨hk, c⟩
    exact h6.perm hx.symm fw_ksym
theorem fw_E_tick {lx lx' : List fw_T} {ly ly' : List fw_U} (q : fw_T → Bool) (E : fw_E lx ly)
    (hx : lx'.Perm (lx.filter q)) (hy : ly' = ly.filter (q ∘ fw_g)) : fw_E lx' ly' ∧ lx'.length = ly'.length := by
  obtain ⟨p, a, b, c⟩ := E
  have h1 : lx'.Perm (ly'.map fw_g) := by
    rw [hy, ← List.filter_map]
    exact hx.trans (p.filter q)
  refine ⟨⟨h1, fun z hz => a z ((List.mem_filter.mp (hx.mem_iff.mp hz)).1), fun z hz => ?_, ?_⟩, ?_⟩
  · rw [hy] at hz
    exact b z (List.mem_filter.mp hz).1
  · exact (c.sublist List.filter_sublist).perm hx.symm fw_ksym
  · rw [h1.length_eq, List.length_map]
theorem fw_E_len {lx : List fw_T} {ly : List fw_U} (E : fw_E lx ly) : lx.length = ly.length := by
  rw [E.1.length_eq, List.length_map]
/-- both sides found an entry with one key: it is the same entry -/
theorem fw_E_same {lx : List fw_T} {ly : List fw_U} {t : fw_T} {s : fw_U} (E : fw_E lx ly) (ht : t ∈ lx) (hs : s ∈ ly) (hk : fw_key t = fw_key (fw_g s)) : fw_g s = t := by
  obtain ⟨p, a, b, c⟩ := E
  exact (fw_one c ht (p.mem_iff.mpr (List.mem_map_of_mem hs)) hk).symm
/-- a key that one side has the other has too -/
theorem fw_E_xy {lx : List fw_T} {ly : List fw_U} {t : fw_T} (E : fw_E lx ly) (ht : t ∈ lx) : ∃ s, s ∈ ly ∧ fw_g s = t := by
  obtain ⟨p, a, b, c⟩ := E
  exact List.mem_map.mp (p.mem_iff.mp ht)
theorem fw_E_yx {lx : List fw_T} {ly : List fw_U} {s : fw_U} (E : fw_E lx ly) (hs : s ∈ ly) : fw_g s ∈ lx := by
  obtain ⟨p, a, b, c⟩ := E
  exact p.mem_iff.mpr (List.mem_map_of_mem hs)
end
section
theorem fw_up {n m : Nat} {x : Int32} (h : fw_r n x) (hm : n ≤ m) : fw_r m x := by
  obtain ⟨a, ha, e⟩ := h
  exact ⟨a, Nat.lt_of_lt_of_le ha hm, e⟩
theorem fw_dv {n : Nat} {x : Int32} (h : fw_r n x) (hn : n ≤ 1048576) : x / 16 = x >>> ((4 : Int32) &&& 31) := by
  obtain ⟨a, ha, rfl⟩ := h
  have e1 : nI a / 16 = nI (a / 16) := pk_div (d := 16) (by omega) (by decide) (by decide)
  have e2 : nI a >>> ((4 : Int32) &&& 31) = nI (a / 2 ^ 4) := pk_shrN (by omega) _ 4 (by decide)
  rw [e1, e2]
theorem fw_md {n : Nat} {x : Int32} (h : fw_r n x) (hn : n ≤ 1048576) : x - x / 16 * 16 = x &&& 15 := by
  obtain ⟨a, ha, rfl⟩ := h
  have e1 : nI a - nI a / 16 * 16 = nI (a % 16) := pk_rem (d := 16) (by omega) (by decide) (by decide)
  have e2 : nI a &&& 15 = nI (a % 2 ^ 4) := pk_andN (by omega) 4 (by decide)
  rw [e1, e2]
theorem fw_dv4 {n : Nat} {x : Int32} (h : fw_r n x) (hn : n ≤ 1048576) : x / 4 = x >>> ((2 : Int32) &&& 31) := by
  obtain ⟨a, ha, rfl⟩ := h
  have e1 : nI a / 4 = nI (a / 4) := pk_div (d := 4) (by omega) (by decide) (by decide)
  have e2 : nI a >>> ((2 : Int32) &&& 31) = nI (a / 2 ^ 2) := pk_shrN (by omega) _ 2 (by decide)
  rw [e1, e2]
theorem fw_md4 {n : Nat} {x : Int32} (h : fw_r n x) (hn : n ≤ 1048576) : x - x / 4 * 4 = x &&& 3 := by
  obtain ⟨a, ha, rfl⟩ := h
  have e1 : nI a - nI a / 4 * 4 = nI (a % 4) := pk_rem (d := 4) (by omega) (by decide) (by decide)
  have e2 : nI a &&& 3 = nI (a % 2 ^ 2) := pk_andN (by omega) 2 (by decide)
  rw [e1, e2]
theorem fw_dv2 {n : Nat} {x : Int32} (h : fw_r n x) (hn : n ≤ 1048576) : x / 2 = x >>> ((1 : Int32) &&& 31) := by
  obtain ⟨a, ha, rfl⟩ := h
  have e1 : nI a / 2 = nI (a / 2) := pk_div (d := 2) (by omega) (by decide) (by decide)
  have e2 : nI a >>> ((1 : Int32) &&& 31) = nI (a / 2 ^ 1) := pk_shrN (by omega) _ 1 (by decide)
  rw [e1, e2]
theorem fw_md2 {n : Nat} {x : Int32} (h : fw_r n x) (hn : n ≤ 1048576) : x - x / 2 * 2 = x &&& 1 := by
  obtain ⟨a, ha, rfl⟩ := h
  have e1 : nI a - nI a / 2 * 2 = nI (a % 2) := pk_rem (d := 2) (by omega) (by decide) (by decide)
  have e2 : nI a &&& 1 = nI (a % 2 ^ 1) := pk_andN (by omega) 1 (by decide)
  rw [e1, e2]
theorem fw_lo {a : Nat} (h : a < 1048576) : nI a &&& 15 = nI (a % 16) := pk_andN (by omega) 4 (by decide)
theorem fw_hi {a : Nat} (h : a < 1048576) : nI a >>> ((4 : Int32) &&& 31) = nI (a / 16) := pk_shrN (by omega) _ 4 (by decide)
/-- a rule's address part and an address -/
def fw_pm (pre x : Int32) : Bool := decide (x >>> ((4 - (pre >>> ((4 : Int32) &&& 31))) &&& 31) = (pre &&& 15) >>> ((4 - (pre >>> ((4 : Int32) &&& 31))) &&& 31))
def fw_pq (c q : Int32) : Bool := decide ((c &&& 15) ≤ q) && decide (q ≤ c >>> ((4 : Int32) &&& 31))
def fw_pp (d p : Int32) : Bool := decide ((d &&& 3) = 2) || decide ((d &&& 3) = p)
/-- a rule matches a tuple -/
def fw_m (a b c d s t q p : Int32) : Bool := fw_pm a s && (fw_pm b t && (fw_pq c q && fw_pp d p))
def fw_b (b : Bool) : Int32 := if b = true then 1 else 0
theorem fw_b1 {b : Bool} (h : b = true) : fw_b b = 1 := if_pos h
theorem fw_b0 {b : Bool} (h : b = false) : fw_b b = 0 := if_neg (by rw [h]; exact Bool.false_ne_true)
theorem fw_bz {b : Bool} : fw_b b = 0 ↔ b = false := by cases b <;> decide
theorem fw_br {b : Bool} {A B : Prop} (f : b = false → A) (g : b = true → B) : (fw_b b = 0 → A) ∧ (¬ fw_b b = 0 → B) := by
  cases b
  · exact br_t rfl (f rfl)
  · exact br_f (by decide) (g rfl)
/-- the first from i on, of d, at which M holds -/
def fw_ff (M : Nat → Bool) : Nat → Nat → Nat
  | 0, i => i
  | d + 1, i => if M i = true then i else fw_ff M d (i + 1)
theorem fw_ff_t {M : Nat → Bool} {d i : Nat} (h : M i = true) : fw_ff M (d + 1) i = i := if_pos h
theorem fw_ff_f {M : Nat → Bool} {d i : Nat} (h : M i = false) : fw_ff M (d + 1) i = fw_ff M d (i + 1) := if_neg (by rw [h]; exact Bool.false_ne_true)
theorem fw_ff_spec (M : Nat → Bool) : ∀ d i, i ≤ fw_ff M d i ∧ fw_ff M d i ≤ i + d ∧ (∀ j, i ≤ j → j < fw_ff M d i → M j = false) ∧ (fw_ff M d i < i + d → M (fw_ff M d i) = true) := by
  intro d
  induction d with
  | zero => exact fun i => ⟨Nat.le_refl _, Nat.le_refl _, fun j h1 h2 => absurd h2 (Nat.not_lt.mpr h1), fun h => absurd h (Nat.lt_irrefl _)⟩
  | succ d ih =>
    intro i
    cases e : M i with
    | true =>
      rw [fw_ff_t e]
      exact ⟨Nat.le_refl _, by omega, fun j h1 h2 => absurd h2 (Nat.not_lt.mpr h1), fun _ => e⟩
    | false =>
      rw [fw_ff_f e]
      obtain ⟨h1, h2, h3, h4⟩ := ih (i + 1)
      refine ⟨by omega, by omega, fun j hj hl => ?_, fun h => h4 (by omega)⟩
      by_cases z : j = i
      · rw [z]; exact e
      · exact h3 j (by omega) hl
theorem fw_ff_iff (M : Nat → Bool) {n k : Nat} (hk : k < n) : fw_ff M n 0 = k ↔ M k = true ∧ ∀ j, j < k → M j = false := by
  obtain ⟨h1, h2, h3, h4⟩ := fw_ff_spec M n 0
  constructor
  · intro e
    subst e
    exact ⟨h4 (by omega), fun j hj => h3 j (Nat.zero_le _) hj⟩
  · intro ⟨a, b⟩
    apply Nat.le_antisymm
    · apply Nat.le_of_not_lt
      intro z
      have h5 := h3 k (Nat.zero_le _) z
      rw [a] at h5
      exact Bool.noConfusion h5
    · apply Nat.le_of_not_lt
      intro z
      have h5 := h4 (by omega)
      rw [b _ z] at h5
      exact Bool.noConfusion h5
theorem fw_ff_congr {M M' : Nat → Bool} : ∀ d i, (∀ j, i ≤ j → j < i + d → M j = M' j) → fw_ff M d i = fw_ff M' d i := by
  intro d
  induction d with
  | zero => exact fun _ _ => rfl
  | succ d ih =>
    intro i h
    cases e : M i with
    | true => rw [fw_ff_t e, fw_ff_t ((h i (by omega) (by omega)).symm.trans e)]
    | false => rw [fw_ff_f e, fw_ff_f ((h i (by omega) (by omega)).symm.trans e), ih (i + 1) (fun j h1 h2 => h j (by omega) (by omega))]
/-- the index that decides, or -2; its action, or the default -/
def fw_ix (v n : Nat) : Int32 := if v < n then nI v else -2
def fw_ac (v n : Nat) (rA : Nat → Int32) (da : Int32) : Int32 := if v < n then (rA v) >>> ((2 : Int32) &&& 31) else da
/-- a rule left out -/
def fw_lo1 (L : Int32) (M : Nat → Bool) : Nat → Bool := fun i => !decide (nI i = L) && M i
theorem fw_lo1_m {M : Nat → Bool} {n : Nat} (hn : n ≤ 16) : fw_ff (fw_lo1 (-1) M) n 0 = fw_ff M n 0 := by
  apply fw_ff_congr
  intro j _ hj
  have e : ¬ nI j = -1 := by
    intro z
    have h1 : ¬ nI j < 0 := nI_pos (by omega)
    rw [z] at h1
    exact h1 (by decide)
  unfold fw_lo1
  rw [decide_eq_false e]
  rfl
/-- the time that a state lasts -/
def fw_to (st : Int32) : Int32 := if st = 1 then 6 else if st = 2 then 6 else if st = 3 then 40 else if st = 4 then 12 else if st = 5 then 12 else if st = 6 then 12 else if st = 7 then 4 else if st = 8 then 10 else 30
def fw_iw (seq nx : Int32) : Bool := decide (((seq - nx) &&& 255) < 32)
def fw_rt (seq nx : Int32) : Bool := decide (seq = ((nx + 255) &&& 255))
def fw_fin (st d : Int32) : Int32 := if st = 3 then (if d = 0 then 4 else 5) else if st = (if d = 0 then 5 else 4) then 6 else st
/-- the state after a packet of an entry, or 0 -/
def fw_sa (st d fl seq nx : Int32) : Int32 :=
  if st = 1 then (if d = 0 then (if fl = 1 ∧ fw_rt seq nx = true then 1 else 0) else (if fl = 3 then 2 else 0))
  else if st = 2 then (if d = 0 then (if fl = 2 ∧ fw_iw seq nx = true then 3 else 0) else (if fl = 3 ∧ fw_rt seq nx = true then 2 else 0))
  else if fw_iw seq nx = true then (if fl = 2 then (if st = 6 then 7 else st) else if fl = 6 then fw_fin st d else 0)
  else 0
theorem fw_sa_ok {st : Int32} (h : ∃ k : Nat, k < 7 ∧ st = nI (k + 1)) (d fl seq nx : Int32) : fw_sa st d fl seq nx = 0 ∨ ∃ k : Nat, k < 7 ∧ fw_sa st d fl seq nx = nI (k + 1) := by
  unfold fw_sa fw_fin
  repeat' split
  all_goals first
    | exact Or.inl rfl
    | exact Or.inr h
    | exact Or.inr ⟨0, by decide, rfl⟩
    | exact Or.inr ⟨1, by decide, rfl⟩
    | exact Or.inr ⟨2, by decide, rfl⟩
    | exact Or.inr ⟨3, by decide, rfl⟩
    | exact Or.inr ⟨4, by decide, rfl⟩
    | exact Or.inr ⟨5, by decide, rfl⟩
    | exact Or.inr ⟨6, by decide, rfl⟩
def fw_in (x h : Int32) : Bool := decide (¬ x < 0) && decide (x ≤ h)
theorem fw_in_r {x : Int32} (k : Nat) (hk : k < 1048576) : fw_in x (nI k) = true ↔ fw_r (k + 1) x := by
  unfold fw_in
  rw [Bool.and_eq_true, decide_eq_true_eq, decide_eq_true_eq]
  constructor
  · intro ⟨a, b⟩
    obtain ⟨j, hj, rfl⟩ := nI_of a
    rw [nI_leI hj (by omega)] at b
    exact ⟨j, by omega, rfl⟩
  · intro ⟨j, hj, e⟩
    subst e
    exact ⟨nI_pos (by omega), nI_le (by omega) (by omega)⟩
theorem fw_in_n {x : Int32} {n : Nat} (hn : n ≤ 16) : fw_in x (nI n - 1) = true ↔ fw_r n x := by
  cases n with
  | zero =>
    constructor
    · unfold fw_in
      rw [Bool.and_eq_true, decide_eq_true_eq, decide_eq_true_eq]
      intro ⟨a, b⟩
      exact absurd (Int32.lt_of_le_of_lt b (by decide)) a
    · intro ⟨j, hj, _⟩
      exact absurd hj (Nat.not_lt_zero _)
  | succ n => rw [nI_pred]; exact fw_in_r n (by omega)
/-- what stands behind the division of an address part -/
def fw_bd (p : Int32) : Int32 := (1 : Int32) <<< ((4 - (p >>> ((4 : Int32) &&& 31))) &&& 31)
theorem fw_bd5 : ∀ b : Nat, b < 5 → ¬ ((1 : Int32) <<< ((4 - nI b) &&& 31)) = 0 := by decide +kernel
theorem fw_bd0 {p : Int32} (h : fw_r 80 p) : ¬ fw_bd p = 0 := by
  obtain ⟨a, ha, rfl⟩ := h
  unfold fw_bd
  rw [fw_hi (by omega)]
  exact fw_bd5 (a / 16) (by omega)
def fw_vp (p : Int32) : Bool := fw_in p 79 && decide ((p &&& 15) - (p &&& 15) / fw_bd p * fw_bd p = 0)
def fw_vq (c : Int32) : Bool := fw_in c 255 && decide ((c &&& 15) ≤ c >>> ((4 : Int32) &&& 31))
def fw_va (d : Int32) : Bool := fw_in d 7 && !decide ((d &&& 3) = 3)
theorem fw_vk {a b c d : Int32} (h1 : fw_vp a = true) (h2 : fw_vp b = true) (h3 : fw_vq c = true) (h4 : fw_va d = true) : fw_r 80 a ∧ fw_r 80 b ∧ fw_r 256 c ∧ (c &&& 15) ≤ c >>> ((4 : Int32) &&& 31) ∧ fw_r 8 d ∧ ¬ (d &&& 3) = 3 := by
  unfold fw_vp at h1 h2
  unfold fw_vq at h3
  unfold fw_va at h4
  rw [Bool.and_eq_true] at h1 h2 h3 h4
  exact ⟨(fw_in_r 79 (by decide)).mp h1.1, (fw_in_r 79 (by decide)).mp h2.1, (fw_in_r 255 (by decide)).mp h3.1, of_decide_eq_true h3.2, (fw_in_r 7 (by decide)).mp h4.1, by
    intro z
    have h5 := h4.2
    rw [decide_eq_true z] at h5
    exact Bool.noConfusion h5⟩
def fw_hd (a b p : Int32) : Bool := fw_in a 255 && (fw_in b 255 && fw_in p 1)
theorem fw_hd_r {a b p : Int32} (h : fw_hd a b p = true) : fw_r 256 a ∧ fw_r 256 b ∧ fw_r 2 p := by
  unfold fw_hd at h
  rw [Bool.and_eq_true, Bool.and_eq_true] at h
  exact ⟨(fw_in_r 255 (by decide)).mp h.1, (fw_in_r 255 (by decide)).mp h.2.1, (fw_in_r 1 (by decide)).mp h.2.2⟩
/-- the rules of the reference, matched against a tuple -/
def fw_M (rS rD rP rA : Nat → Int32) (s t q p : Int32) : Nat → Bool := fun i => fw_m (rS i) (rD i) (rP i) (rA i) s t q p
theorem fw_nb (b : Bool) : narrow .boolean (.int (fw_b b)) = .int (fw_b b) := by cases b <;> rfl
end
section
/-- what a kept rule is -/
def fw_k (a b c d : Int32) : Prop := fw_r 80 a ∧ fw_r 80 b ∧ fw_r 256 c ∧ (c &&& 15) ≤ c >>> ((4 : Int32) &&& 31) ∧ fw_r 8 d ∧ ¬ (d &&& 3) = 3
/-- the two lists of rules are the same -/
def fw_R (r rS rD rP rA : Nat → Int32) (n : Nat) : Prop := ∀ i, i < n → r (4 * i) = rS i ∧ r (4 * i + 1) = rD i ∧ r (4 * i + 2) = rP i ∧ r (4 * i + 3) = rA i ∧ fw_k (rS i) (rD i) (rP i) (rA i)
theorem fw_R_0 {r rS rD rP rA : Nat → Int32} : fw_R r rS rD rP rA 0 := fun _ h => absurd h (Nat.not_lt_zero _)
theorem fw_R_add {r rS rD rP rA : Nat → Int32} {n : Nat} {a b c d : Int32} (R : fw_R r rS rD rP rA n) (h : fw_k a b c d) :
    fw_R (upd (upd (upd (upd r (4 * n) a) (4 * n + 1) b) (4 * n + 2) c) (4 * n + 3) d) (upd rS n a) (upd rD n b) (upd rP n c) (upd rA n d) (n + 1) := by
  intro i hi
  by_cases e : i = n
  · subst e
    refine ⟨?_, ?_, ?_, ?_, ?_⟩
    · rw [pk_un (by omega), pk_un (by omega), pk_un (by omega), pk_us, pk_us]
    · rw [pk_un (by omega), pk_un (by omega), pk_us, pk_us]
    · rw [pk_un (by omega), pk_us, pk_us]
    · rw [pk_us, pk_us]
    · rw [pk_us, pk_us, pk_us, pk_us]; exact h
  · obtain ⟨h1, h2, h3, h4, h5⟩ := R i (by omega)
    refine ⟨?_, ?_, ?_, ?_, ?_⟩
    · rw [pk_un (by omega), pk_un (by omega), pk_un (by omega), pk_un (by omega), pk_un e]; exact h1
    · rw [pk_un (by omega), pk_un (by omega), pk_un (by omega), pk_un (by omega), pk_un e]; exact h2
    · rw [pk_un (by omega), pk_un (by omega), pk_un (by omega), pk_un (by omega), pk_un e]; exact h3
    · rw [pk_un (by omega), pk_un (by omega), pk_un (by omega), pk_un (by omega), pk_un e]; exact h4
    · rw [pk_un e, pk_un e, pk_un e, pk_un e]; exact h5
/-- an array in which the cells from lo up to c took the value w cells further on -/
def fw_mv (f f' : Nat → Int32) (w lo c : Nat) : Prop := ∀ x, f' x = if lo ≤ x ∧ x < c then f (x + w) else f x
theorem fw_mv_0 (f : Nat → Int32) (w lo : Nat) : fw_mv f f w lo lo := fun x => (if_neg (by omega)).symm
theorem fw_mv_s {f f' : Nat → Int32} {w lo c : Nat} (hw : 0 < w) (hc : lo ≤ c) (h : fw_mv f f' w lo c) : fw_mv f (upd f' c (f' (c + w))) w lo (c + 1) := by
  intro x
  by_cases e : x = c
  · subst e
    rw [pk_us, h, if_neg (by omega), if_pos (by omega)]
  · rw [pk_un e, h]
    by_cases z : lo ≤ x ∧ x < c
    · rw [if_pos z, if_pos (by omega)]
    · rw [if_neg z, if_neg (by omega)]
theorem fw_mv_lt {f f' : Nat → Int32} {w lo c x : Nat} (h : fw_mv f f' w lo c) (hx : x < lo) : f' x = f x := by rw [h, if_neg (by omega)]
theorem fw_mv_in {f f' : Nat → Int32} {w lo c x : Nat} (h : fw_mv f f' w lo c) (h1 : lo ≤ x) (h2 : x < c) : f' x = f (x + w) := by rw [h, if_pos ⟨h1, h2⟩]
theorem fw_R_del {r r' rS rS' rD rD' rP rP' rA rA' : Nat → Int32} {n k : Nat} (R : fw_R r rS rD rP rA (n + 1)) (hr : fw_mv r r' 4 (4 * k) (4 * n)) (hk : k ≤ n)
    (hS : fw_mv rS rS' 1 k n) (hD : fw_mv rD rD' 1 k n) (hP : fw_mv rP rP' 1 k n) (hA : fw_mv rA rA' 1 k n) : fw_R r' rS' rD' rP' rA' n := by
  intro i hi
  by_cases e : k ≤ i
  · obtain ⟨h1, h2, h3, h4, h5⟩ := R (i + 1) (by omega)
    rw [show 4 * (i + 1) = 4 * i + 4 from by omega] at h1
    rw [show 4 * (i + 1) + 1 = 4 * i + 1 + 4 from by omega] at h2
    rw [show 4 * (i + 1) + 2 = 4 * i + 2 + 4 from by omega] at h3
    rw [show 4 * (i + 1) + 3 = 4 * i + 3 + 4 from by omega] at h4
    rw [fw_mv_in hS e hi, fw_mv_in hD e hi, fw_mv_in hP e hi, fw_mv_in hA e hi, fw_mv_in hr (x := 4 * i) (by omega) (by omega), fw_mv_in hr (x := 4 * i + 1) (by omega) (by omega), fw_mv_in hr (x := 4 * i + 2) (by omega) (by omega), fw_mv_in hr (x := 4 * i + 3) (by omega) (by omega)]
    exact ⟨h1, h2, h3, h4, h5⟩
  · obtain ⟨h1, h2, h3, h4, h5⟩ := R i (by omega)
    rw [fw_mv_lt hS (by omega), fw_mv_lt hD (by omega), fw_mv_lt hP (by omega), fw_mv_lt hA (by omega), fw_mv_lt hr (x := 4 * i) (by omega), fw_mv_lt hr (x := 4 * i + 1) (by omega), fw_mv_lt hr (x := 4 * i + 2) (by omega), fw_mv_lt hr (x := 4 * i + 3) (by omega)]
    exact ⟨h1, h2, h3, h4, h5⟩
/-- the swapped half of a pair -/
def fw_sw (a : Nat) : Nat := a / 16 + 16 * (a % 16)
def fw_K (p : Int32) (a q d : Nat) : Int32 × Int32 × Int32 := if d = 0 then (p, nI a, nI q) else (p, nI (fw_sw a), nI (fw_sw q))
theorem fw_K0 {p : Int32} {a q : Nat} : fw_K p a q 0 = (p, nI a, nI q) := if_pos rfl
theorem fw_K1 {p : Int32} {a q : Nat} : fw_K p a q 1 = (p, nI (fw_sw a), nI (fw_sw q)) := if_neg (by decide)
/-- slot i is what the header finds, in direction d -/
def fw_F (f : Nat → fw_T) (m : Nat) (p : Int32) (a q i d : Nat) : Prop := i < m ∧ d < 2 ∧ fw_key (f i) = fw_K p a q d ∧ ∀ e, e < d → ∀ j, j < m → fw_key (f j) ≠ fw_K p a q e
def fw_none (f : Nat → fw_T) (m : Nat) (p : Int32) (a q : Nat) : Prop := ∀ e, e < 2 → ∀ j, j < m → fw_key (f j) ≠ fw_K p a q e
theorem fw_im {a b : Nat} (h : nI a = nI b) (ha : a < 2 ^ 31) (hb : b < 2 ^ 31) : a = b := (nI_eq ha hb).mp h
theorem fw_pair {x y : Int32} (hx : fw_r 16 x) (hy : fw_r 16 y) {a : Nat} (ha : a < 256) : x + 16 * y = nI a ↔ x = nI (a % 16) ∧ y = nI (a / 16) := by
  obtain ⟨b, hb, rfl⟩ := hx
  obtain ⟨c, hc, rfl⟩ := hy
  have e : nI b + 16 * nI c = nI (b + 16 * c) := by
    have e1 : (16 : Int32) * nI c = nI (16 * c) := pk_mul 16 c
    rw [e1, nI_add]
  rw [e, nI_eq (by omega) (by omega), nI_eq (by omega) (by omega), nI_eq (by omega) (by omega)]
  omega
/-- the key of a reference's entry, part by part -/
theorem fw_kg {pr os op od oq st ex n0 n1 p : Int32} {a q : Nat} (ok : fw_okY (pr, os, op, od, oq, st, ex, n0, n1)) (ha : a < 256) (hq : q < 256) :
    fw_key (fw_g (pr, os, op, od, oq, st, ex, n0, n1)) = (p, nI a, nI q) ↔ pr = p ∧ os = nI (a % 16) ∧ op = nI (q % 16) ∧ od = nI (a / 16) ∧ oq = nI (q / 16) := by
  obtain ⟨h1, h2, h3, h4⟩ := ok
  show (pr, os + 16 * od, op + 16 * oq) = (p, nI a, nI q) ↔ _
  rw [Prod.mk.injEq, Prod.mk.injEq, fw_pair h1 h3 ha, fw_pair h2 h4 hq]
  constructor
  · exact fun ⟨x, ⟨y, z⟩, u, v⟩ => ⟨x, y, u, z, v⟩
  · exact fun ⟨x, y, u, z, v⟩ => ⟨x, ⟨y, z⟩, u, v⟩
theorem fw_swlt {a : Nat} (h : a < 256) : fw_sw a < 256 := by unfold fw_sw; omega
theorem fw_swlo {a : Nat} (h : a < 256) : fw_sw a % 16 = a / 16 := by unfold fw_sw; omega
theorem fw_swhi {a : Nat} (h : a < 256) : fw_sw a / 16 = a % 16 := by unfold fw_sw; omega
theorem fw_XT_n {pr ad po st ex nx : Nat → Int32} {i j : Nat} {a b c d e f g : Int32} (h : j ≠ i) :
    fw_XT (upd pr i a) (upd ad i b) (upd po i c) (upd st i d) (upd ex i e) (upd (upd nx (2 * i) f) (2 * i + 1) g) j = fw_XT pr ad po st ex nx j := by
  unfold fw_XT
  rw [pk_un h, pk_un h, pk_un h, pk_un h, pk_un h, pk_un (by omega), pk_un (by omega), pk_un (by omega), pk_un (by omega)]
theorem fw_XT_s {pr ad po st ex nx : Nat → Int32} {i : Nat} {a b c d e f g : Int32} :
    fw_XT (upd pr i a) (upd ad i b) (upd po i c) (upd st i d) (upd ex i e) (upd (upd nx (2 * i) f) (2 * i + 1) g) i = (a, b, c, d, e, f, g) := by
  unfold fw_XT
  rw [pk_us, pk_us, pk_us, pk_us, pk_us, pk_us, pk_un (by omega), pk_us]
theorem fw_XU_n {pr ad po st ex nx : Nat → Int32} {i j : Nat} {d e : Int32} (h : j ≠ i) :
    fw_XT pr ad po (upd st i d) (upd ex i e) nx j = fw_XT pr ad po st ex nx j := by
  unfold fw_XT
  rw [pk_un h, pk_un h]
theorem fw_XU_s {pr ad po st ex nx : Nat → Int32} {i : Nat} {d e : Int32} :
    fw_XT pr ad po (upd st i d) (upd ex i e) nx i = (pr i, ad i, po i, d, e, nx (2 * i), nx (2 * i + 1)) := by
  unfold fw_XT
  rw [pk_us, pk_us]
theorem fw_XV_n {pr ad po st ex nx : Nat → Int32} {i j k : Nat} {d e f : Int32} (h : j ≠ i) (hk : k < 2) :
    fw_XT pr ad po (upd st i d) (upd ex i e) (upd nx (2 * i + k) f) j = fw_XT pr ad po st ex nx j := by
  unfold fw_XT
  rw [pk_un h, pk_un h, pk_un (by omega), pk_un (by omega)]
theorem fw_XV_0 {pr ad po st ex nx : Nat → Int32} {i : Nat} {d e f : Int32} :
    fw_XT pr ad po (upd st i d) (upd ex i e) (upd nx (2 * i) f) i = (pr i, ad i, po i, d, e, f, nx (2 * i + 1)) := by
  unfold fw_XT
  rw [pk_us, pk_us, pk_us, pk_un (by omega)]
theorem fw_XV_1 {pr ad po st ex nx : Nat → Int32} {i : Nat} {d e f : Int32} :
    fw_XT pr ad po (upd st i d) (upd ex i e) (upd nx (2 * i + 1) f) i = (pr i, ad i, po i, d, e, nx (2 * i), f) := by
  unfold fw_XT
  rw [pk_us, pk_us, pk_us, pk_un (by omega)]
theorem fw_YT_n {pr os op od oq st ex n0 n1 : Nat → Int32} {i j : Nat} {a b c d e f g h k : Int32} (hj : j ≠ i) :
    fw_YT (upd pr i a) (upd os i b) (upd op i c) (upd od i d) (upd oq i e) (upd st i f) (upd ex i g) (upd n0 i h) (upd n1 i k) j = fw_YT pr os op od oq st ex n0 n1 j := by
  unfold fw_YT
  rw [pk_un hj, pk_un hj, pk_un hj, pk_un hj, pk_un hj, pk_un hj, pk_un hj, pk_un hj, pk_un hj]
theorem fw_YT_s {pr os op od oq st ex n0 n1 : Nat → Int32} {i : Nat} {a b c d e f g h k : Int32} :
    fw_YT (upd pr i a) (upd os i b) (upd op i c) (upd od i d) (upd oq i e) (upd st i f) (upd ex i g) (upd n0 i h) (upd n1 i k) i = (a, b, c, d, e, f, g, h, k) := by
  unfold fw_YT
  rw [pk_us, pk_us, pk_us, pk_us, pk_us, pk_us, pk_us, pk_us, pk_us]
theorem fw_YU_n {pr os op od oq st ex n0 n1 : Nat → Int32} {i j : Nat} {f g : Int32} (hj : j ≠ i) :
    fw_YT pr os op od oq (upd st i f) (upd ex i g) n0 n1 j = fw_YT pr os op od oq st ex n0 n1 j := by
  unfold fw_YT
  rw [pk_un hj, pk_un hj]
theorem fw_YU_s {pr os op od oq st ex n0 n1 : Nat → Int32} {i : Nat} {f g : Int32} :
    fw_YT pr os op od oq (upd st i f) (upd ex i g) n0 n1 i = (pr i, os i, op i, od i, oq i, f, g, n0 i, n1 i) := by
  unfold fw_YT
  rw [pk_us, pk_us]
theorem fw_YV_n0 {pr os op od oq st ex n0 n1 : Nat → Int32} {i j : Nat} {f g h : Int32} (hj : j ≠ i) :
    fw_YT pr os op od oq (upd st i f) (upd ex i g) (upd n0 i h) n1 j = fw_YT pr os op od oq st ex n0 n1 j := by
  unfold fw_YT
  rw [pk_un hj, pk_un hj, pk_un hj]
theorem fw_YV_s0 {pr os op od oq st ex n0 n1 : Nat → Int32} {i : Nat} {f g h : Int32} :
    fw_YT pr os op od oq (upd st i f) (upd ex i g) (upd n0 i h) n1 i = (pr i, os i, op i, od i, oq i, f, g, h, n1 i) := by
  unfold fw_YT
  rw [pk_us, pk_us, pk_us]
theorem fw_YV_n1 {pr os op od oq st ex n0 n1 : Nat → Int32} {i j : Nat} {f g h : Int32} (hj : j ≠ i) :
    fw_YT pr os op od oq (upd st i f) (upd ex i g) n0 (upd n1 i h) j = fw_YT pr os op od oq st ex n0 n1 j := by
  unfold fw_YT
  rw [pk_un hj, pk_un hj, pk_un hj]
theorem fw_YV_s1 {pr os op od oq st ex n0 n1 : Nat → Int32} {i : Nat} {f g h : Int32} :
    fw_YT pr os op od oq (upd st i f) (upd ex i g) n0 (upd n1 i h) i = (pr i, os i, op i, od i, oq i, f, g, n0 i, h) := by
  unfold fw_YT
  rw [pk_us, pk_us, pk_us]
/-- the relation of the two states -/
def i_Rel (_ : Nat) (u : SX) (v : SY) : Prop :=
  ∃ (rc cc n m : Nat) (da ck fd : Int32) (r pr ad po st ex nx rS rD rP rA cp cs ct cd cu cst cx cn0 cn1 : Nat → Int32),
    u = (nI rc, nI cc, da, nI n, nI m, ck, r, pr, ad, po, st, ex, nx) ∧ v = (nI rc, nI cc, da, nI n, nI m, ck, fd, rS, rD, rP, rA, cp, cs, ct, cd, cu, cst, cx, cn0, cn1) ∧
    rc ≤ 16 ∧ cc ≤ 16 ∧ n ≤ rc ∧ m ≤ cc ∧ fw_R r rS rD rP rA n ∧ fw_E (fw_L (fw_XT pr ad po st ex nx) m) (fw_L (fw_YT cp cs ct cd cu cst cx cn0 cn1) m)
theorem i_up {k : Nat} {u : SX} {v : SY} (h : i_Rel k u v) : i_Rel (k + 5) u v := h
end
section
theorem fw_mg {a b c d e f g h k a' b' c' f' g' h' k' : Int32} (h1 : a = a') (h2 : b + 16 * d = b') (h3 : c + 16 * e = c') (h4 : f = f') (h5 : g = g')
    (h6 : (if a = 1 then -1 else h) = h') (h7 : (if a = 1 then -1 else k) = k') : fw_g (a, b, c, d, e, f, g, h, k) = (a', b', c', f', g', h', k') := by
  subst h1 h2 h3 h4 h5 h6 h7
  rfl
section MV
variable {pr ad po st ex nx cp cs ct cd cu cst cx cn0 cn1 : Nat → Int32} {m : Nat}
theorem fw_gx {i j : Nat} (hg : fw_g (fw_YT cp cs ct cd cu cst cx cn0 cn1 j) = fw_XT pr ad po st ex nx i) :
    cp j = pr i ∧ cs j + 16 * cd j = ad i ∧ ct j + 16 * cu j = po i ∧ cst j = st i ∧ cx j = ex i ∧ (if cp j = 1 then -1 else cn0 j) = nx (2 * i) ∧ (if cp j = 1 then -1 else cn1 j) = nx (2 * i + 1) := by
  have h : (cp j, cs j + 16 * cd j, ct j + 16 * cu j, cst j, cx j, (if cp j = 1 then -1 else cn0 j), (if cp j = 1 then -1 else cn1 j)) = (pr i, ad i, po i, st i, ex i, nx (2 * i), nx (2 * i + 1)) := hg
  simp only [Prod.mk.injEq] at h
  exact h
theorem fw_okx {i : Nat} (E : fw_E (fw_L (fw_XT pr ad po st ex nx) m) (fw_L (fw_YT cp cs ct cd cu cst cx cn0 cn1) m)) (hi : i < m) :
    (pr i = 0 ∨ pr i = 1) ∧ fw_r 256 (ad i) ∧ fw_r 256 (po i) ∧ (pr i = 0 → ∃ k : Nat, k < 7 ∧ st i = nI (k + 1)) ∧ fw_N (nx (2 * i)) ∧ fw_N (nx (2 * i + 1)) ∧ (pr i = 1 → nx (2 * i) = -1 ∧ nx (2 * i + 1) = -1) :=
  E.2.1 _ (fw_L_in _ hi)
theorem fw_oky {j : Nat} (E : fw_E (fw_L (fw_XT pr ad po st ex nx) m) (fw_L (fw_YT cp cs ct cd cu cst cx cn0 cn1) m)) (hj : j < m) :
    fw_r 16 (cs j) ∧ fw_r 16 (ct j) ∧ fw_r 16 (cd j) ∧ fw_r 16 (cu j) :=
  E.2.2.1 _ (fw_L_in _ hj)
theorem fw_udp {i j : Nat} (E : fw_E (fw_L (fw_XT pr ad po st ex nx) m) (fw_L (fw_YT cp cs ct cd cu cst cx cn0 cn1) m)) (hi : i < m) (hj : j < m)
    (hg : fw_g (fw_YT cp cs ct cd cu cst cx cn0 cn1 j) = fw_XT pr ad po st ex nx i) (hp : pr i = 1) (s e : Int32) :
    fw_E (fw_L (fw_XT pr ad po (upd st i s) (upd ex i e) nx) m) (fw_L (fw_YT cp cs ct cd cu (upd cst j s) (upd cx j e) cn0 cn1) m) := by
  obtain ⟨g1, g2, g3, g4, g5, g6, g7⟩ := fw_gx hg
  obtain ⟨o1, o2, o3, o4, o5, o6, o7⟩ := fw_okx E hi
  refine fw_E_upd E (fw_L_in _ hi) (fw_set m hi (fun _ _ h => fw_XU_n h) fw_XU_s) (fw_set m hj (fun _ _ h => fw_YU_n h) fw_YU_s) hg (fw_mg g1 g2 g3 rfl rfl g6 g7) ?_ (fw_oky E hj) rfl
  exact ⟨o1, o2, o3, fun z => absurd (hp.symm.trans z) (by decide), o5, o6, o7⟩
theorem fw_tcp0 {i j k : Nat} (E : fw_E (fw_L (fw_XT pr ad po st ex nx) m) (fw_L (fw_YT cp cs ct cd cu cst cx cn0 cn1) m)) (hi : i < m) (hj : j < m)
    (hg : fw_g (fw_YT cp cs ct cd cu cst cx cn0 cn1 j) = fw_XT pr ad po st ex nx i) (hp : pr i = 0) (e q : Int32) (hk : k < 7) (hq : fw_r 256 q) :
    fw_E (fw_L (fw_XT pr ad po (upd st i (nI (k + 1))) (upd ex i e) (upd nx (2 * i) q)) m) (fw_L (fw_YT cp cs ct cd cu (upd cst j (nI (k + 1))) (upd cx j e) (upd cn0 j q) cn1) m) := by
  obtain ⟨g1, g2, g3, g4, g5, g6, g7⟩ := fw_gx hg
  obtain ⟨o1, o2, o3, o4, o5, o6, o7⟩ := fw_okx E hi
  have h0 : ¬ cp j = 1 := by rw [g1, hp]; decide
  refine fw_E_upd E (fw_L_in _ hi) (fw_set m hi (fun _ _ h => fw_XV_n (k := 0) h (by decide)) fw_XV_0) (fw_set m hj (fun _ _ h => fw_YV_n0 h) fw_YV_s0) hg (fw_mg g1 g2 g3 rfl rfl (if_neg h0) g7) ?_ (fw_oky E hj) rfl
  exact ⟨o1, o2, o3, fun _ => ⟨k, hk, rfl⟩, Or.inr hq, o6, fun z => absurd (hp.symm.trans z) (by decide)⟩
theorem fw_tcp1 {i j k : Nat} (E : fw_E (fw_L (fw_XT pr ad po st ex nx) m) (fw_L (fw_YT cp cs ct cd cu cst cx cn0 cn1) m)) (hi : i < m) (hj : j < m)
    (hg : fw_g (fw_YT cp cs ct cd cu cst cx cn0 cn1 j) = fw_XT pr ad po st ex nx i) (hp : pr i = 0) (e q : Int32) (hk : k < 7) (hq : fw_r 256 q) :
    fw_E (fw_L (fw_XT pr ad po (upd st i (nI (k + 1))) (upd ex i e) (upd nx (2 * i + 1) q)) m) (fw_L (fw_YT cp cs ct cd cu (upd cst j (nI (k + 1))) (upd cx j e) cn0 (upd cn1 j q)) m) := by
  obtain ⟨g1, g2, g3, g4, g5, g6, g7⟩ := fw_gx hg
  obtain ⟨o1, o2, o3, o4, o5, o6, o7⟩ := fw_okx E hi
  have h0 : ¬ cp j = 1 := by rw [g1, hp]; decide
  refine fw_E_upd E (fw_L_in _ hi) (fw_set m hi (fun _ _ h => fw_XV_n (k := 1) h (by decide)) fw_XV_1) (fw_set m hj (fun _ _ h => fw_YV_n1 h) fw_YV_s1) hg (fw_mg g1 g2 g3 rfl rfl g6 (if_neg h0)) ?_ (fw_oky E hj) rfl
  exact ⟨o1, o2, o3, fun _ => ⟨k, hk, rfl⟩, o5, Or.inr hq, fun z => absurd (hp.symm.trans z) (by decide)⟩
theorem fw_new {p s e nx0 nx1 ny0 ny1 : Int32} {a q : Nat} (E : fw_E (fw_L (fw_XT pr ad po st ex nx) m) (fw_L (fw_YT cp cs ct cd cu cst cx cn0 cn1) m))
    (hn : fw_none (fw_XT pr ad po st ex nx) m p a q) (ha : a < 256) (hq : q < 256) (ok : fw_okX (p, nI a, nI q, s, e, nx0, nx1))
    (h6 : (if p = 1 then -1 else ny0) = nx0) (h7 : (if p = 1 then -1 else ny1) = nx1) :
    fw_E (fw_L (fw_XT (upd pr m p) (upd ad m (nI a)) (upd po m (nI q)) (upd st m s) (upd ex m e) (upd (upd nx (2 * m) nx0) (2 * m + 1) nx1)) (m + 1))
      (fw_L (fw_YT (upd cp m p) (upd cs m (nI (a % 16))) (upd ct m (nI (q % 16))) (upd cd m (nI (a / 16))) (upd cu m (nI (q / 16))) (upd cst m s) (upd cx m e) (upd cn0 m ny0) (upd cn1 m ny1)) (m + 1)) := by
  refine fw_E_new E (fw_app (fun j hj => fw_XT_n (by omega)) fw_XT_s) (fw_app (fun j hj => fw_YT_n (by omega)) fw_YT_s) (fw_mg rfl ?_ ?_ rfl rfl h6 h7) ok ?_ ?_
  · exact (fw_pair ⟨_, Nat.mod_lt _ (by decide), rfl⟩ ⟨a / 16, by omega, rfl⟩ ha).mpr ⟨rfl, rfl⟩
  · exact (fw_pair ⟨_, Nat.mod_lt _ (by decide), rfl⟩ ⟨q / 16, by omega, rfl⟩ hq).mpr ⟨rfl, rfl⟩
  · exact ⟨⟨_, Nat.mod_lt _ (by decide), rfl⟩, ⟨_, Nat.mod_lt _ (by decide), rfl⟩, ⟨a / 16, by omega, rfl⟩, ⟨q / 16, by omega, rfl⟩⟩
  · intro z hz
    obtain ⟨j, hj, rfl⟩ := fw_L_mem.mp hz
    have h := hn 0 (by decide) j hj
    rw [fw_K0] at h
    exact fun c => h c.symm
/-- what the reference's search finds is what the component's found -/
theorem fw_found {p : Int32} {a q i d j : Nat} (E : fw_E (fw_L (fw_XT pr ad po st ex nx) m) (fw_L (fw_YT cp cs ct cd cu cst cx cn0 cn1) m))
    (F : fw_F (fw_XT pr ad po st ex nx) m p a q i d) (hj : j < m) (hk : fw_key (fw_g (fw_YT cp cs ct cd cu cst cx cn0 cn1 j)) = fw_K p a q d) :
    fw_g (fw_YT cp cs ct cd cu cst cx cn0 cn1 j) = fw_XT pr ad po st ex nx i :=
  fw_E_same E (fw_L_in _ F.1) (fw_L_in _ hj) (F.2.2.1.trans hk.symm)
/-- a key that the component has, the reference has -/
theorem fw_has {i : Nat} (E : fw_E (fw_L (fw_XT pr ad po st ex nx) m) (fw_L (fw_YT cp cs ct cd cu cst cx cn0 cn1) m)) (hi : i < m) :
    ∃ j, j < m ∧ fw_key (fw_g (fw_YT cp cs ct cd cu cst cx cn0 cn1 j)) = fw_key (fw_XT pr ad po st ex nx i) := by
  obtain ⟨s, hs, e⟩ := fw_E_xy E (fw_L_in _ hi)
  obtain ⟨j, hj, rfl⟩ := fw_L_mem.mp hs
  exact ⟨j, hj, by rw [e]⟩
/-- a key that the reference has, the component has -/
theorem fw_hasY {j : Nat} (E : fw_E (fw_L (fw_XT pr ad po st ex nx) m) (fw_L (fw_YT cp cs ct cd cu cst cx cn0 cn1) m)) (hj : j < m) :
    ∃ i, i < m ∧ fw_key (fw_XT pr ad po st ex nx i) = fw_key (fw_g (fw_YT cp cs ct cd cu cst cx cn0 cn1 j)) := by
  obtain ⟨i, hi, e⟩ := fw_L_mem.mp (fw_E_yx E (fw_L_in _ hj))
  exact ⟨i, hi, by rw [e]⟩
end MV
/-- the component's tick, downwards: slots from s on are looked at -/
def fw_TI {α : Type} (q : α → Bool) (l0 : List α) (f : Nat → α) (c s : Nat) : Prop := s ≤ c ∧ (∀ j, s ≤ j → j < c → q (f j) = true) ∧ ((fw_L f c).filter q).Perm (l0.filter q)
theorem fw_TI_0 {α : Type} {q : α → Bool} {f : Nat → α} {m : Nat} : fw_TI q (fw_L f m) f m m := ⟨Nat.le_refl _, fun j h1 h2 => absurd h2 (Nat.not_lt.mpr h1), List.Perm.refl _⟩
theorem fw_TI_k {α : Type} {q : α → Bool} {l0 : List α} {f : Nat → α} {c s : Nat} (h : fw_TI q l0 f c (s + 1)) (hq : q (f s) = true) : fw_TI q l0 f c s := by
  obtain ⟨h1, h2, h3⟩ := h
  refine ⟨by omega, fun j a b => ?_, h3⟩
  by_cases e : j = s
  · rw [e]; exact hq
  · exact h2 j (by omega) b
theorem fw_TI_d {α : Type} {q : α → Bool} {l0 : List α} {f f' : Nat → α} {c s : Nat} (h : fw_TI q l0 f (c + 1) (s + 1)) (hq : q (f s) = false)
    (ho : ∀ j, j < c → j ≠ s → f' j = f j) (hv : s < c → f' s = f c) : fw_TI q l0 f' c s := by
  obtain ⟨h1, h2, h3⟩ := h
  refine ⟨by omega, fun j a b => ?_, fw_gone h3 hq (fw_swap (by omega) ho hv)⟩
  by_cases e : j = s
  · rw [e, hv (by omega)]; exact h2 c (by omega) (by omega)
  · rw [ho j b e]; exact h2 j (by omega) (by omega)
theorem fw_TI_e {α : Type} {q : α → Bool} {l0 : List α} {f : Nat → α} {c : Nat} (h : fw_TI q l0 f c 0) : (fw_L f c).Perm (l0.filter q) := by
  obtain ⟨h1, h2, h3⟩ := h
  rw [fw_all (fun j hj => h2 j (Nat.zero_le _) hj)] at h3
  exact h3
/-- the reference's removal, upwards: the slots from e up to k have taken the next one's value -/
def fw_SH {α : Type} (f f' : Nat → α) (e k : Nat) : Prop := (∀ j, e ≤ j → j < k → f' j = f (j + 1)) ∧ (∀ j, j < e → f' j = f j) ∧ (∀ j, k ≤ j → f' j = f j)
theorem fw_SH_0 {α : Type} {f : Nat → α} {e : Nat} : fw_SH f f e e := ⟨fun j h1 h2 => absurd h2 (Nat.not_lt.mpr h1), fun _ _ => rfl, fun _ _ => rfl⟩
theorem fw_SH_s {α : Type} {f f' f'' : Nat → α} {e k : Nat} (h : fw_SH f f' e k) (hk : e ≤ k) (hv : f'' k = f' (k + 1)) (ho : ∀ j, j ≠ k → f'' j = f' j) : fw_SH f f'' e (k + 1) := by
  obtain ⟨h1, h2, h3⟩ := h
  refine ⟨fun j a b => ?_, fun j a => ?_, fun j a => ?_⟩
  · by_cases z : j = k
    · rw [z, hv, h3 (k + 1) (by omega)]
    · rw [ho j z, h1 j a (by omega)]
  · rw [ho j (by omega), h2 j a]
  · rw [ho j (by omega), h3 j (by omega)]
theorem fw_SH_e {α : Type} {f f' : Nat → α} {e m : Nat} (h : fw_SH f f' e m) (he : e < m + 1) : (f e :: fw_L f' m).Perm (fw_L f (m + 1)) :=
  fw_shift m he (fun j _ b => h.2.1 j b) (fun j a b => h.1 j b a)
/-- the reference's tick, upwards -/
def fw_UP {α : Type} (q : α → Bool) (f g : Nat → α) (i w : Nat) : Prop := w ≤ i ∧ fw_L g w = (fw_L f i).filter q ∧ (∀ j, i ≤ j → g j = f j)
theorem fw_UP_0 {α : Type} {q : α → Bool} {f : Nat → α} : fw_UP q f f 0 0 := ⟨Nat.le_refl _, rfl, fun _ _ => rfl⟩
theorem fw_UP_f {α : Type} {q : α → Bool} {f g : Nat → α} {i w : Nat} (h : fw_UP q f g i w) (hq : q (g i) = false) : fw_UP q f g (i + 1) w := by
  obtain ⟨h1, h2, h3⟩ := h
  rw [h3 i (Nat.le_refl _)] at hq
  exact ⟨by omega, fw_skip h2 hq, fun j hj => h3 j (by omega)⟩
theorem fw_UP_t {α : Type} {q : α → Bool} {f g g' : Nat → α} {i w : Nat} (h : fw_UP q f g i w) (hq : q (g i) = true) (hv : g' w = g i) (ho : ∀ j, j ≠ w → g' j = g j) : fw_UP q f g' (i + 1) (w + 1) := by
  obtain ⟨h1, h2, h3⟩ := h
  have e := h3 i (Nat.le_refl _)
  rw [e] at hq hv
  exact ⟨by omega, fw_keep h2 hq (fun j hj => ho j (by omega)) hv, fun j hj => by rw [ho j (by omega)]; exact h3 j (by omega)⟩
theorem fw_ptw {α : Type} {f g : Nat → α} {w : Nat} (hv : g w = f w) (ho : ∀ j, j ≠ w → g j = f j) : g = f := by
  funext j
  by_cases e : j = w
  · rw [e, hv]
  · exact ho j e
end
section
theorem fw_bt {b : Bool} {A B : Prop} (h : b = true) (x : B) : (fw_b b = 0 → A) ∧ (¬ fw_b b = 0 → B) := fw_br (fun z => absurd (h.symm.trans z) (by decide)) (fun _ => x)
theorem fw_bf {b : Bool} {A B : Prop} (h : b = false) (x : A) : (fw_b b = 0 → A) ∧ (¬ fw_b b = 0 → B) := fw_br (fun _ => x) (fun z => absurd (h.symm.trans z) (by decide))
theorem fw_in_t {x h : Int32} (e : fw_in x h = true) : ¬ x < 0 ∧ x ≤ h := by
  unfold fw_in at e
  rw [Bool.and_eq_true, decide_eq_true_eq, decide_eq_true_eq] at e
  exact e
theorem fw_in_m {x h : Int32} (a : ¬ x < 0) (b : x ≤ h) : fw_in x h = true := by
  unfold fw_in
  rw [decide_eq_true a, decide_eq_true b]
  rfl
theorem fx_inRange {post : Int32 → Prop} {x h : Int32} (H : post (fw_b (fw_in x h))) : wpX_inRange post x h := by
  unfold fw_in at H
  refine br_c (fun a => ?_) (fun a => br_c (fun b => ?_) (fun b => ?_))
  · rw [decide_eq_false (fun z => z a)] at H; exact H
  · rw [decide_eq_false (p := x ≤ h) (fun z => absurd b (Int32.not_lt.mpr z)), Bool.and_false] at H; exact H
  · rw [decide_eq_true a, decide_eq_true (Int32.not_lt.mp b)] at H; exact H
theorem fx_validPrefix {post : Int32 → Prop} {p : Int32} (H : post (fw_b (fw_vp p))) : wpX_validPrefix post p := by
  unfold fw_vp at H
  unfold wpX_validPrefix
  refine fx_inRange (fw_br (fun a => ?_) (fun a => ?_))
  · rw [a] at H; exact H
  · have h : fw_r 80 p := (fw_in_r 79 (by decide)).mp a
    rw [fw_md h (by decide), fw_dv h (by decide)]
    refine ⟨by decide, nm_e ⟨by decide, fw_bd0 h, br_c (fun b => ?_) (fun b => ?_)⟩⟩
    · have b' : (p &&& 15) - (p &&& 15) / fw_bd p * fw_bd p = 0 := b
      rw [a, decide_eq_true b'] at H; exact H
    · have b' : ¬ (p &&& 15) - (p &&& 15) / fw_bd p * fw_bd p = 0 := b
      rw [a, decide_eq_false b'] at H; exact H
theorem fx_validPortRange {post : Int32 → Prop} {p : Int32} (H : post (fw_b (fw_vq p))) : wpX_validPortRange post p := by
  unfold fw_vq at H
  unfold wpX_validPortRange
  refine fx_inRange (fw_br (fun a => ?_) (fun a => ?_))
  · rw [a] at H; exact H
  · have h : fw_r 256 p := (fw_in_r 255 (by decide)).mp a
    rw [fw_md h (by decide), fw_dv h (by decide)]
    refine ⟨by decide, by decide, br_c (fun b => ?_) (fun b => ?_)⟩
    · rw [a, decide_eq_false (Int32.not_le.mpr b)] at H; exact H
    · rw [a, decide_eq_true (Int32.not_lt.mp b)] at H; exact H
theorem fw_m4 {d : Int32} (h : fw_r 8 d) : 2 < (d &&& 3) ↔ (d &&& 3) = 3 := by
  obtain ⟨a, ha, rfl⟩ := h
  have e : nI a &&& 3 = nI (a % 4) := pk_andN (by omega) 2 (by decide)
  rw [e]
  have e1 : (2 : Int32) < nI (a % 4) ↔ 2 < a % 4 := nI_ltI (a := 2) (by decide) (by omega)
  have e2 : nI (a % 4) = (3 : Int32) ↔ a % 4 = 3 := nI_eq (b := 3) (by omega) (by decide)
  rw [e1, e2]
  omega
theorem fx_validProtoAction {post : Int32 → Prop} {p : Int32} (H : post (fw_b (fw_va p))) : wpX_validProtoAction post p := by
  unfold fw_va at H
  unfold wpX_validProtoAction
  refine fx_inRange (fw_br (fun a => ?_) (fun a => ?_))
  · rw [a] at H; exact H
  · have h : fw_r 8 p := (fw_in_r 7 (by decide)).mp a
    rw [fw_md4 h (by decide)]
    refine ⟨by decide, br_c (fun b => ?_) (fun b => ?_)⟩
    · rw [a, decide_eq_true ((fw_m4 h).mp b)] at H; exact H
    · rw [a, decide_eq_false (fun z => b ((fw_m4 h).mpr z))] at H; exact H
theorem fx_validHeader {post : Int32 → Prop} {a b p : Int32} (H : post (fw_b (fw_hd a b p))) : wpX_validHeader post a b p := by
  unfold fw_hd at H
  unfold wpX_validHeader
  refine fx_inRange (fw_br (fun h1 => ?_) (fun h1 => fx_inRange (fw_br (fun h2 => ?_) (fun h2 => fx_inRange (fw_br (fun h3 => ?_) (fun h3 => ?_))))))
  · rw [h1] at H; exact H
  · rw [h1, h2] at H; exact H
  · rw [h1, h2, h3] at H; exact H
  · rw [h1, h2, h3] at H; exact H
theorem fx_prefixMatches {post : Int32 → Prop} {p x : Int32} (h : fw_r 80 p) (H : post (fw_b (fw_pm p x))) : wpX_prefixMatches post p x := by
  unfold wpX_prefixMatches
  rw [fw_md h (by decide), fw_dv h (by decide)]
  refine ⟨by decide, nm_e ⟨by decide, br_c (fun b => ?_) (fun b => ?_)⟩⟩
  · rw [show fw_pm p x = true from decide_eq_true b] at H; exact H
  · rw [show fw_pm p x = false from decide_eq_false b] at H; exact H
theorem fx_portMatches {post : Int32 → Prop} {c q : Int32} (h : fw_r 256 c) (H : post (fw_b (fw_pq c q))) : wpX_portMatches post c q := by
  unfold fw_pq at H
  unfold wpX_portMatches
  rw [fw_md h (by decide), fw_dv h (by decide)]
  refine ⟨by decide, br_c (fun a => ?_) (fun a => ⟨by decide, br_c (fun b => ?_) (fun b => ?_)⟩)⟩
  · rw [decide_eq_false (Int32.not_le.mpr a)] at H; exact H
  · rw [decide_eq_false (Int32.not_le.mpr b), Bool.and_false] at H; exact H
  · rw [decide_eq_true (Int32.not_lt.mp a), decide_eq_true (Int32.not_lt.mp b)] at H; exact H
theorem fx_protoMatches {post : Int32 → Prop} {d p : Int32} (h : fw_r 8 d) (H : post (fw_b (fw_pp d p))) : wpX_protoMatches post d p := by
  unfold fw_pp at H
  unfold wpX_protoMatches
  rw [fw_md4 h (by decide)]
  refine ⟨by decide, nm_e (br_c (fun a => ?_) (fun a => br_c (fun b => ?_) (fun b => ?_)))⟩
  · rw [decide_eq_true a] at H; exact H
  · rw [decide_eq_true b, Bool.or_true] at H; exact H
  · rw [decide_eq_false a, decide_eq_false b] at H; exact H
theorem fw_40 (i : Nat) : 4 * nI i + 0 = nI (4 * i) := by rw [Int32.add_zero]; exact pk_mul 4 i
theorem fw_41 (i : Nat) : 4 * nI i + 1 = nI (4 * i + 1) := (congrArg (· + 1) (pk_mul 4 i)).trans (nI_1 _)
theorem fw_42 (i : Nat) : 4 * nI i + 2 = nI (4 * i + 2) := (congrArg (· + 2) (pk_mul 4 i)).trans (nI_add _ 2)
theorem fw_43 (i : Nat) : 4 * nI i + 3 = nI (4 * i + 3) := (congrArg (· + 3) (pk_mul 4 i)).trans (nI_add _ 3)
section FX
variable {rc cc da ck : Int32} {r pr ad po st ex nx rS rD rP rA : Nat → Int32} {n m : Nat}
theorem fx_holdsRule {post : Int32 → Prop} {x : Int32} (H : post (fw_b (fw_in x (nI n - 1)))) : wpX_holdsRule post (rc, cc, da, nI n, nI m, ck, r, pr, ad, po, st, ex, nx) x := by
  unfold wpX_holdsRule
  exact fx_inRange ⟨fw_nb _, H⟩
theorem fx_ruleMatches {post : Int32 → Prop} {i a : Nat} {q p : Int32} (R : fw_R r rS rD rP rA n) (hn : n ≤ 16) (hi : i < n) (ha : a < 256)
    (H : post (fw_b (fw_M rS rD rP rA (nI (a % 16)) (nI (a / 16)) q p i))) : wpX_ruleMatches post (rc, cc, da, nI n, nI m, ck, r, pr, ad, po, st, ex, nx) (nI i) (nI a) q p := by
  obtain ⟨k1, k2, k3, k4, h1, h2, h3, h4, h5, h6⟩ := R i hi
  unfold wpX_ruleMatches
  dsimp only
  intro x5 e5
  subst e5
  have ea : nI a - nI a / 16 * 16 = nI (a % 16) := pk_rem (d := 16) (by omega) (by decide) (by decide)
  have eb : nI a / 16 = nI (a / 16) := pk_div (d := 16) (by omega) (by decide) (by decide)
  rw [ea, eb, fw_40, fw_41, fw_42, fw_43, nI_clamp (n := 4 * i) (by omega), nI_clamp (n := 4 * i + 1) (by omega), nI_clamp (n := 4 * i + 2) (by omega), nI_clamp (n := 4 * i + 3) (by omega), k1, k2, k3, k4]
  unfold fw_M fw_m at H
  refine ⟨vp_in_nI (by omega) (by decide), by decide, fx_prefixMatches h1 (fw_br (fun b1 => ?_) (fun b1 => ⟨vp_in_nI (by omega) (by decide), by decide, fx_prefixMatches h2 (fw_br (fun b2 => ?_) (fun b2 => ⟨vp_in_nI (by omega) (by decide), fx_portMatches h3 (fw_br (fun b3 => ?_) (fun b3 => ⟨vp_in_nI (by omega) (by decide), fx_protoMatches h5 (fw_br (fun b4 => ?_) (fun b4 => ?_))⟩))⟩))⟩))⟩
  · rw [b1] at H; exact H
  · rw [b1, b2] at H; exact H
  · rw [b1, b2, b3] at H; exact H
  · rw [b1, b2, b3, b4] at H; exact H
  · rw [b1, b2, b3, b4] at H; exact H
theorem fx_fm {post : Int32 → Prop} {a : Nat} {q p L : Int32} (R : fw_R r rS rD rP rA n) (hn : n ≤ 16) (ha : a < 256) :
    ∀ d i, i + d = n → post (fw_ix (fw_ff (fw_lo1 L (fw_M rS rD rP rA (nI (a % 16)) (nI (a / 16)) q p)) d i) n) → ∀ f, d < f → wX_firstMatch_3 post (nI a) q p L rc cc da (nI n) (nI m) ck r pr ad po st ex nx f (nI i) := by
  intro d
  induction d with
  | zero =>
    intro i hi H f hf
    obtain ⟨f, rfl⟩ : ∃ g, f = g + 1 := ⟨f - 1, by omega⟩
    have e : i = n := by omega
    subst e
    have e1 : fw_ix (fw_ff (fw_lo1 L (fw_M rS rD rP rA (nI (a % 16)) (nI (a / 16)) q p)) 0 i) i = -2 := if_neg (Nat.lt_irrefl i)
    rw [e1] at H
    exact br_t (nI_le (Nat.le_refl _) (by omega)) H
  | succ d ih =>
    intro i hi H f hf
    obtain ⟨f, rfl⟩ : ∃ g, f = g + 1 := ⟨f - 1, by omega⟩
    refine br_f (nI_ge (by omega) (by omega)) (br_c (fun e => nm_r (nI_1 i) (ih (i + 1) (by omega) ?_ f (by omega))) (fun e => fx_ruleMatches R hn (by omega) ha (fw_br (fun b => nm_r (nI_1 i) (ih (i + 1) (by omega) ?_ f (by omega))) (fun b => ?_))))
    · have z : fw_lo1 L (fw_M rS rD rP rA (nI (a % 16)) (nI (a / 16)) q p) i = false := by unfold fw_lo1; rw [decide_eq_true e]; rfl
      rw [fw_ff_f z] at H; exact H
    · have z : fw_lo1 L (fw_M rS rD rP rA (nI (a % 16)) (nI (a / 16)) q p) i = false := by unfold fw_lo1; rw [decide_eq_false e, b]; rfl
      rw [fw_ff_f z] at H; exact H
    · have z : fw_lo1 L (fw_M rS rD rP rA (nI (a % 16)) (nI (a / 16)) q p) i = true := by unfold fw_lo1; rw [decide_eq_false e, b]; rfl
      rw [fw_ff_t z, show fw_ix i n = nI i from if_pos (by omega)] at H; exact H
theorem fx_firstMatch {post : Int32 → Prop} {a : Nat} {q p L : Int32} (R : fw_R r rS rD rP rA n) (hn : n ≤ 16) (ha : a < 256)
    (H : post (fw_ix (fw_ff (fw_lo1 L (fw_M rS rD rP rA (nI (a % 16)) (nI (a / 16)) q p)) n 0) n)) : wpX_firstMatch post (rc, cc, da, nI n, nI m, ck, r, pr, ad, po, st, ex, nx) (nI a) q p L :=
  ⟨n + 1, fx_fm R hn ha n 0 (by omega) H (n + 1) (by omega)⟩
theorem fx_actionOf {post : Int32 → Prop} {v : Nat} (R : fw_R r rS rD rP rA n) (hn : n ≤ 16) (H : post (fw_ac v n rA da)) : wpX_actionOf post (rc, cc, da, nI n, nI m, ck, r, pr, ad, po, st, ex, nx) (fw_ix v n) := by
  unfold wpX_actionOf
  dsimp only
  by_cases h : v < n
  · obtain ⟨k1, k2, k3, k4, h1, h2, h3, h4, h5, h6⟩ := R v h
    rw [show fw_ac v n rA da = (rA v) >>> ((2 : Int32) &&& 31) from if_pos h, ← fw_dv4 h5 (by decide)] at H
    rw [show fw_ix v n = nI v from if_pos h, fw_43, nI_clamp (n := 4 * v + 3) (by omega), k4]
    refine br_f ?_ ⟨vp_in_nI (by omega) (by decide), by decide, H⟩
    intro z
    have h9 : ¬ nI v < 0 := nI_pos (by omega)
    rw [z] at h9
    exact h9 (by decide)
  · rw [show fw_ac v n rA da = da from if_neg h] at H
    rw [show fw_ix v n = -2 from if_neg h]
    exact br_t rfl H
theorem fx_decision {post : Int32 → Prop} {a b : Nat} {p : Int32} (R : fw_R r rS rD rP rA n) (hn : n ≤ 16) (ha : a < 256) (hb : b < 256)
    (H : post (fw_ac (fw_ff (fw_lo1 (-1) (fw_M rS rD rP rA (nI (a % 16)) (nI (a / 16)) (nI (b / 16)) p)) n 0) n rA da)) : wpX_decision post (rc, cc, da, nI n, nI m, ck, r, pr, ad, po, st, ex, nx) (nI a) (nI b) p := by
  unfold wpX_decision
  have eb : nI b / 16 = nI (b / 16) := pk_div (d := 16) (by omega) (by decide) (by decide)
  dsimp only
  rw [eb]
  exact ⟨by decide, fx_firstMatch R hn ha (fx_actionOf R hn H)⟩
end FX
end
section
section FY
variable {rc cc da ck fd : Int32} {rS rD rP rA cp cs ct cd cu cst cx cn0 cn1 : Nat → Int32} {n m : Nat}
theorem fy_validPrefix {post : Int32 → Prop} {p : Int32} (H : post (fw_b (fw_vp p))) : wpY_validPrefix post (rc, cc, da, nI n, nI m, ck, fd, rS, rD, rP, rA, cp, cs, ct, cd, cu, cst, cx, cn0, cn1) p := by
  unfold fw_vp at H
  unfold wpY_validPrefix
  dsimp only
  refine br_c (fun a => ?_) (fun a => br_c (fun b => ?_) (fun b => ?_))
  · rw [show fw_in p 79 = false from by unfold fw_in; rw [decide_eq_false (fun z => z a)]; rfl] at H; exact H
  · have e := fw_in_m a b
    have h : fw_r 80 p := (fw_in_r 79 (by decide)).mp e
    refine nm_e ⟨fw_bd0 h, br_c (fun c => ?_) (fun c => ?_)⟩
    · have c' : (p &&& 15) - (p &&& 15) / fw_bd p * fw_bd p = 0 := c
      rw [e, decide_eq_true c'] at H; exact H
    · have c' : ¬ (p &&& 15) - (p &&& 15) / fw_bd p * fw_bd p = 0 := c
      rw [e, decide_eq_false c'] at H; exact H
  · rw [show fw_in p 79 = false from by unfold fw_in; rw [decide_eq_false b, Bool.and_false]] at H; exact H
theorem fy_pmatch {post : Int32 → Prop} {p x : Int32} (H : post (fw_b (fw_pm p x))) : wpY_pmatch post (rc, cc, da, nI n, nI m, ck, fd, rS, rD, rP, rA, cp, cs, ct, cd, cu, cst, cx, cn0, cn1) p x := by
  unfold wpY_pmatch
  dsimp only
  refine nm_e (br_c (fun b => ?_) (fun b => ?_))
  · rw [show fw_pm p x = true from decide_eq_true b] at H; exact H
  · rw [show fw_pm p x = false from decide_eq_false b] at H; exact H
theorem fy_matches {post : Int32 → Prop} {i : Nat} {s t q p : Int32} (hi : i < 16) (H : post (fw_b (fw_M rS rD rP rA s t q p i))) : wpY_matches post (rc, cc, da, nI n, nI m, ck, fd, rS, rD, rP, rA, cp, cs, ct, cd, cu, cst, cx, cn0, cn1) (nI i) s t q p := by
  unfold wpY_matches
  dsimp only
  rw [nI_clamp (n := i) (by omega)]
  have v : vp_in (nI i) 16 := vp_in_nI hi (by decide)
  unfold fw_M fw_m fw_pq fw_pp at H
  refine ⟨v, fy_pmatch (fw_br (fun b1 => ?_) (fun b1 => ⟨v, fy_pmatch (fw_br (fun b2 => ?_) (fun b2 => ⟨v, nm_e ⟨v, nm_e (br_c (fun b3 => ?_) (fun b3 => br_c (fun b4 => ⟨v, nm_e (br_c (fun b5 => ?_) (fun b5 => br_c (fun b6 => ?_) (fun b6 => ?_)))⟩) (fun b4 => ?_)))⟩⟩))⟩))⟩
  · rw [b1] at H; exact H
  · rw [b1, b2] at H; exact H
  · rw [b1, b2, decide_eq_false (Int32.not_le.mpr b3)] at H; exact H
  · rw [b1, b2, decide_eq_true (Int32.not_lt.mp b3), decide_eq_true b4, decide_eq_true b5] at H; exact H
  · rw [b1, b2, decide_eq_true (Int32.not_lt.mp b3), decide_eq_true b4, decide_eq_false b5, decide_eq_true b6] at H; exact H
  · rw [b1, b2, decide_eq_true (Int32.not_lt.mp b3), decide_eq_true b4, decide_eq_false b5, decide_eq_false b6] at H; exact H
  · rw [b1, b2, decide_eq_true (Int32.not_lt.mp b3), decide_eq_false b4] at H; exact H
theorem fy_dl {post : Int32 → Prop} {s t q p L : Int32} (hn : n ≤ 16) :
    ∀ d i, i + d = n → post (fw_ac (fw_ff (fw_lo1 L (fw_M rS rD rP rA s t q p)) d i) n rA da) → ∀ f, d < f → wY_decide_3 post s t q p L rc cc da (nI n) (nI m) ck fd rS rD rP rA cp cs ct cd cu cst cx cn0 cn1 f (nI i) := by
  intro d
  induction d with
  | zero =>
    intro i hi H f hf
    obtain ⟨f, rfl⟩ : ∃ g, f = g + 1 := ⟨f - 1, by omega⟩
    have e : i = n := by omega
    subst e
    have e1 : fw_ac (fw_ff (fw_lo1 L (fw_M rS rD rP rA s t q p)) 0 i) i rA da = da := if_neg (Nat.lt_irrefl i)
    rw [e1] at H
    exact br_t (nI_le (Nat.le_refl _) (by omega)) H
  | succ d ih =>
    intro i hi H f hf
    obtain ⟨f, rfl⟩ : ∃ g, f = g + 1 := ⟨f - 1, by omega⟩
    refine br_f (nI_ge (by omega) (by omega)) (br_c (fun e => nm_r (nI_1 i) (ih (i + 1) (by omega) ?_ f (by omega))) (fun e => fy_matches (by omega) (fw_br (fun b => nm_r (nI_1 i) (ih (i + 1) (by omega) ?_ f (by omega))) (fun b => ⟨vp_in_nI (by omega) (by decide), ?_⟩))))
    · have z : fw_lo1 L (fw_M rS rD rP rA s t q p) i = false := by unfold fw_lo1; rw [decide_eq_true e]; rfl
      rw [fw_ff_f z] at H; exact H
    · have z : fw_lo1 L (fw_M rS rD rP rA s t q p) i = false := by unfold fw_lo1; rw [decide_eq_false e, b]; rfl
      rw [fw_ff_f z] at H; exact H
    · have z : fw_lo1 L (fw_M rS rD rP rA s t q p) i = true := by unfold fw_lo1; rw [decide_eq_false e, b]; rfl
      rw [fw_ff_t z, show fw_ac i n rA da = (rA i) >>> ((2 : Int32) &&& 31) from if_pos (by omega)] at H
      rw [nI_clamp (n := i) (by omega)]
      exact H
theorem fy_decide {post : Int32 → Prop} {s t q p L : Int32} (hn : n ≤ 16) (H : post (fw_ac (fw_ff (fw_lo1 L (fw_M rS rD rP rA s t q p)) n 0) n rA da)) : wpY_decide post (rc, cc, da, nI n, nI m, ck, fd, rS, rD, rP, rA, cp, cs, ct, cd, cu, cst, cx, cn0, cn1) s t q p L :=
  ⟨n + 1, fy_dl hn n 0 (by omega) H (n + 1) (by omega)⟩
theorem fy_validHdr {post : Int32 → Prop} {a b p : Int32} (H : post (fw_b (fw_hd a b p))) : wpY_validHdr post (rc, cc, da, nI n, nI m, ck, fd, rS, rD, rP, rA, cp, cs, ct, cd, cu, cst, cx, cn0, cn1) a b p := by
  unfold fw_hd at H
  unfold wpY_validHdr
  dsimp only
  have F : ∀ {x h : Int32}, x < 0 → fw_in x h = false := fun z => by unfold fw_in; rw [decide_eq_false (fun y => y z)]; rfl
  have G : ∀ {x h : Int32}, h < x → fw_in x h = false := fun z => by unfold fw_in; rw [decide_eq_false (Int32.not_le.mpr z), Bool.and_false]
  refine br_c (fun h1 => ?_) (fun h1 => br_c (fun h2 => ?_) (fun h2 => br_c (fun h3 => ?_) (fun h3 => br_c (fun h4 => ?_) (fun h4 => br_c (fun h5 => ?_) (fun h5 => br_c (fun h6 => ?_) (fun h6 => ?_))))))
  · rw [F h1] at H; exact H
  · rw [G h2] at H; exact H
  · rw [fw_in_m h1 (Int32.not_lt.mp h2), F h3] at H; exact H
  · rw [fw_in_m h1 (Int32.not_lt.mp h2), G h4] at H; exact H
  · rw [fw_in_m h1 (Int32.not_lt.mp h2), fw_in_m h3 (Int32.not_lt.mp h4), F h5] at H; exact H
  · rw [fw_in_m h1 (Int32.not_lt.mp h2), fw_in_m h3 (Int32.not_lt.mp h4), G h6] at H; exact H
  · rw [fw_in_m h1 (Int32.not_lt.mp h2), fw_in_m h3 (Int32.not_lt.mp h4), fw_in_m h5 (Int32.not_lt.mp h6)] at H; exact H
theorem fy_mr {post : Int32 → Prop} {a b : Nat} {p : Int32} (hn : n ≤ 16) (ha : a < 256) (hb : b < 256) :
    ∀ d i, i + d = n → post (fw_ix (fw_ff (fw_M rS rD rP rA (nI (a % 16)) (nI (a / 16)) (nI (b / 16)) p) d i) n) → ∀ f, d < f → wY_matchingRule_15 post (nI a) (nI b) p rc cc da (nI n) (nI m) ck fd rS rD rP rA cp cs ct cd cu cst cx cn0 cn1 f (nI i) := by
  intro d
  induction d with
  | zero =>
    intro i hi H f hf
    obtain ⟨f, rfl⟩ : ∃ g, f = g + 1 := ⟨f - 1, by omega⟩
    have e : i = n := by omega
    subst e
    have e1 : fw_ix (fw_ff (fw_M rS rD rP rA (nI (a % 16)) (nI (a / 16)) (nI (b / 16)) p) 0 i) i = -2 := if_neg (Nat.lt_irrefl i)
    rw [e1] at H
    exact br_t (nI_le (Nat.le_refl _) (by omega)) H
  | succ d ih =>
    intro i hi H f hf
    obtain ⟨f, rfl⟩ : ∃ g, f = g + 1 := ⟨f - 1, by omega⟩
    rw [wY_matchingRule_15, fw_lo (a := a) (by omega), fw_hi (a := a) (by omega), fw_hi (a := b) (by omega)]
    refine br_f (nI_ge (by omega) (by omega)) (fy_matches (by omega) (fw_br (fun z => nm_r (nI_1 i) (ih (i + 1) (by omega) ?_ f (by omega))) (fun z => ?_)))
    · rw [fw_ff_f z] at H; exact H
    · rw [fw_ff_t z, show fw_ix i n = nI i from if_pos (by omega)] at H; exact H
end FY
theorem i_vc_ruleCount {k : Nat} {u : SX} {v : SY} (I : i_Rel k u v) (hk : k + 5 ≤ 2563) : wpX_ruleCount (fun r => wpY_ruleCount (fun r' => r' = r ∧ i_Rel (k + 5) u v) v) u := by
  have I' := I
  obtain ⟨rc, cc, n, m, da, ck, fd, r, pr, ad, po, st, ex, nx, rS, rD, rP, rA, cp, cs, ct, cd, cu, cst, cx, cn0, cn1, rfl, rfl, h⟩ := I
  exact ⟨rfl, I'⟩
theorem i_vc_now {k : Nat} {u : SX} {v : SY} (I : i_Rel k u v) (hk : k + 5 ≤ 2563) : wpX_now (fun r => wpY_now (fun r' => r' = r ∧ i_Rel (k + 5) u v) v) u := by
  have I' := I
  obtain ⟨rc, cc, n, m, da, ck, fd, r, pr, ad, po, st, ex, nx, rS, rD, rP, rA, cp, cs, ct, cd, cu, cst, cx, cn0, cn1, rfl, rfl, h⟩ := I
  exact ⟨rfl, I'⟩
theorem i_vc_connCount {k : Nat} {u : SX} {v : SY} (I : i_Rel k u v) (hk : k + 5 ≤ 2563) : wpX_connCount (fun r => wpY_connCount (fun r' => r' = r ∧ i_Rel (k + 5) u v) v) u := by
  have I' := I
  obtain ⟨rc, cc, n, m, da, ck, fd, r, pr, ad, po, st, ex, nx, rS, rD, rP, rA, cp, cs, ct, cd, cu, cst, cx, cn0, cn1, rfl, rfl, h⟩ := I
  exact ⟨rfl, I'⟩
theorem i_vc_classify {k : Nat} {u : SX} {v : SY} (I : i_Rel k u v) (hk : k + 5 ≤ 2563) (v1 : Int32) (v2 : Int32) (v3 : Int32) : wpX_classify (fun r => wpY_classify (fun r' => r' = r ∧ i_Rel (k + 5) u v) v v1 v2 v3) u v1 v2 v3 := by
  have I' := I
  obtain ⟨rc, cc, n, m, da, ck, fd, r, pr, ad, po, st, ex, nx, rS, rD, rP, rA, cp, cs, ct, cd, cu, cst, cx, cn0, cn1, rfl, rfl, hrc, hcc, hnr, hmc, R, E⟩ := I
  unfold wpX_classify wpY_classify
  dsimp only
  refine fx_validHeader (fw_br (fun b => ?_) (fun b => ?_))
  · exact fy_validHdr (fw_bf b ⟨rfl, I'⟩)
  · obtain ⟨⟨a, ha, rfl⟩, ⟨q, hq, rfl⟩, _⟩ := fw_hd_r b
    refine fx_decision R (by omega) ha hq (fy_validHdr (fw_bt b ?_))
    rw [fw_lo (a := a) (by omega), fw_hi (a := a) (by omega), fw_hi (a := q) (by omega)]
    exact fy_decide (by omega) ⟨rfl, I'⟩
theorem i_vc_matchingRule {k : Nat} {u : SX} {v : SY} (I : i_Rel k u v) (hk : k + 5 ≤ 2563) (v1 : Int32) (v2 : Int32) (v3 : Int32) : wpX_matchingRule (fun r => wpY_matchingRule (fun r' => r' = r ∧ i_Rel (k + 5) u v) v v1 v2 v3) u v1 v2 v3 := by
  have I' := I
  obtain ⟨rc, cc, n, m, da, ck, fd, r, pr, ad, po, st, ex, nx, rS, rD, rP, rA, cp, cs, ct, cd, cu, cst, cx, cn0, cn1, rfl, rfl, hrc, hcc, hnr, hmc, R, E⟩ := I
  unfold wpX_matchingRule wpY_matchingRule
  dsimp only
  refine fx_validHeader (fw_br (fun b => ?_) (fun b => ?_))
  · exact fy_validHdr (fw_bf b ⟨rfl, I'⟩)
  · obtain ⟨⟨a, ha, rfl⟩, ⟨q, hq, rfl⟩, _⟩ := fw_hd_r b
    have eb : nI q / 16 = nI (q / 16) := pk_div (d := 16) (by omega) (by decide) (by decide)
    rw [eb]
    refine ⟨by decide, fx_firstMatch R (by omega) ha (fy_validHdr (fw_bt b ?_))⟩
    rw [fw_lo1_m (by omega)]
    exact ⟨n + 1, fy_mr (by omega) ha hq n 0 (by omega) ⟨rfl, I'⟩ (n + 1) (by omega)⟩
end
section
/-- the rules against tuple number t of the rule domain -/
def fw_Mt (rS rD rP rA : Nat → Int32) (t : Nat) : Nat → Bool := fw_M rS rD rP rA (nI (t % 16)) (nI (t / 16 % 16)) (nI (t / 256 % 16)) (nI (t / 4096))
theorem fw_ix_eq {v n k : Nat} (hn : n ≤ 16) (hk : k < n) : fw_ix v n = nI k ↔ v = k := by
  unfold fw_ix
  by_cases h : v < n
  · rw [if_pos h]; exact nI_eq (by omega) (by omega)
  · rw [if_neg h]
    constructor
    · intro z
      have h9 : ¬ nI k < 0 := nI_pos (by omega)
      rw [← z] at h9
      exact absurd (by decide) h9
    · intro z; omega
theorem fw_rn {x : Int32} {n : Nat} (hn : n ≤ 16) (a : ¬ x < 0) (c : x < nI n) : fw_r n x := by
  obtain ⟨j, hj, rfl⟩ := nI_of a
  rw [nI_ltI hj (by omega)] at c
  exact ⟨j, c, rfl⟩
theorem fw_sh0 {r rS rD rP rA : Nat → Int32} {n : Nat} (R : fw_R r rS rD rP rA n) (h0 : 0 < n) : ∃ t, t < 8192 ∧ fw_ff (fw_Mt rS rD rP rA t) n 0 = 0 := by
  obtain ⟨_, _, _, _, ⟨a, ha, ea⟩, ⟨b, hb, eb⟩, ⟨c, hc, ec⟩, h4, ⟨d, hd, ed⟩, h6⟩ := R 0 h0
  have q2 : d % 4 = 2 ∨ d % 4 = 0 ∨ d % 4 = 1 := by
    rw [ed, show nI d &&& 3 = nI (d % 4) from pk_andN (by omega) 2 (by decide)] at h6
    have h7 : d % 4 ≠ 3 := fun z => h6 (by rw [z]; rfl)
    omega
  obtain ⟨e, he, q3⟩ : ∃ e : Nat, e < 2 ∧ fw_pp (rA 0) (nI e) = true := by
    unfold fw_pp
    rw [ed, show nI d &&& 3 = nI (d % 4) from pk_andN (by omega) 2 (by decide)]
    rcases q2 with z | z | z
    · exact ⟨0, by decide, by rw [z]; rfl⟩
    · exact ⟨0, by decide, by rw [z]; rfl⟩
    · exact ⟨1, by decide, by rw [z]; rfl⟩
  refine ⟨a % 16 + 16 * (b % 16) + 256 * (c % 16) + 4096 * e, by omega, (fw_ff_iff _ h0).mpr ⟨?_, fun j hj => absurd hj (Nat.not_lt_zero _)⟩⟩
  unfold fw_Mt fw_M fw_m
  have e1 : (a % 16 + 16 * (b % 16) + 256 * (c % 16) + 4096 * e) % 16 = a % 16 := by omega
  have e2 : (a % 16 + 16 * (b % 16) + 256 * (c % 16) + 4096 * e) / 16 % 16 = b % 16 := by omega
  have e3 : (a % 16 + 16 * (b % 16) + 256 * (c % 16) + 4096 * e) / 256 % 16 = c % 16 := by omega
  have e4 : (a % 16 + 16 * (b % 16) + 256 * (c % 16) + 4096 * e) / 4096 = e := by omega
  rw [e1, e2, e3, e4, q3]
  have p1 : fw_pm (rS 0) (nI (a % 16)) = true := by
    unfold fw_pm
    rw [ea, fw_lo (a := a) (by omega)]
    exact decide_eq_true rfl
  have p2 : fw_pm (rD 0) (nI (b % 16)) = true := by
    unfold fw_pm
    rw [eb, fw_lo (a := b) (by omega)]
    exact decide_eq_true rfl
  have p3 : fw_pq (rP 0) (nI (c % 16)) = true := by
    unfold fw_pq
    rw [ec, fw_lo (a := c) (by omega)] at h4
    rw [ec, fw_lo (a := c) (by omega), decide_eq_true h4, decide_eq_true (Int32.le_refl _)]
    rfl
  rw [p1, p2, p3]
  rfl
section DX
variable {rc cc da ck : Int32} {r pr ad po st ex nx rS rD rP rA : Nat → Int32} {n m : Nat}
theorem fx_fmt {post : Int32 → Prop} {t : Nat} {L : Int32} (R : fw_R r rS rD rP rA n) (hn : n ≤ 16) (ht : t < 8192)
    (H : post (fw_ix (fw_ff (fw_lo1 L (fw_Mt rS rD rP rA t)) n 0) n)) : wpX_firstMatchOfTuple post (rc, cc, da, nI n, nI m, ck, r, pr, ad, po, st, ex, nx) (nI t) L := by
  unfold wpX_firstMatchOfTuple
  dsimp only
  have e1 : nI t - nI t / 256 * 256 = nI (t % 256) := pk_rem (d := 256) (by omega) (by decide) (by decide)
  have e2 : nI t / 256 = nI (t / 256) := pk_div (d := 256) (by omega) (by decide) (by decide)
  have e3 : nI (t / 256) - nI (t / 256) / 16 * 16 = nI (t / 256 % 16) := pk_rem (d := 16) (by omega) (by decide) (by decide)
  have e4 : nI t / 4096 = nI (t / 4096) := pk_div (d := 4096) (by omega) (by decide) (by decide)
  rw [e1, e2, e3, e4]
  refine ⟨by decide, nm_e ⟨by decide, by decide, nm_e ⟨by decide, nm_e (fx_firstMatch R hn (by omega) ?_)⟩⟩⟩
  have h1 : t % 256 % 16 = t % 16 := by omega
  have h2 : t % 256 / 16 = t / 16 % 16 := by omega
  rw [h1, h2]
  exact H
theorem fx_sh {post : Int32 → Prop} {k : Nat} (R : fw_R r rS rD rP rA n) (hn : n ≤ 16) (hk : k < n)
    (h0 : (∃ t, t < 8192 ∧ fw_ff (fw_Mt rS rD rP rA t) n 0 = k) → post 0) (h1 : (∀ t, t < 8192 → fw_ff (fw_Mt rS rD rP rA t) n 0 ≠ k) → post 1) :
    ∀ d t, t + d = 8192 → (∀ s, s < t → fw_ff (fw_Mt rS rD rP rA s) n 0 ≠ k) → ∀ f, d < f → wX_shadowed_12 post (nI k) rc cc da (nI n) (nI m) ck r pr ad po st ex nx f (nI t) := by
  intro d
  induction d with
  | zero =>
    intro t ht hs f hf
    obtain ⟨f, rfl⟩ : ∃ g, f = g + 1 := ⟨f - 1, by omega⟩
    exact br_t (nI_le (a := 8192) (by omega) (by omega)) (h1 (fun s z => hs s (by omega)))
  | succ d ih =>
    intro t ht hs f hf
    obtain ⟨f, rfl⟩ : ∃ g, f = g + 1 := ⟨f - 1, by omega⟩
    refine br_f (nI_ge (b := 8192) (by omega) (by decide)) (fx_fmt R hn (by omega) ?_)
    rw [fw_lo1_m hn]
    refine br_c (fun e => h0 ⟨t, by omega, (fw_ix_eq hn hk).mp e⟩) (fun e => nm_r (nI_1 t) (ih (t + 1) (by omega) (fun s z => ?_) f (by omega)))
    by_cases y : s = t
    · rw [y]; exact fun c => e ((fw_ix_eq hn hk).mpr c)
    · exact hs s (by omega)
theorem fx_rd {post : Int32 → Prop} {k : Nat} (R : fw_R r rS rD rP rA n) (hn : n ≤ 16)
    (h0 : (∃ t, t < 8192 ∧ ¬ fw_ac (fw_ff (fw_lo1 (-1) (fw_Mt rS rD rP rA t)) n 0) n rA da = fw_ac (fw_ff (fw_lo1 (nI k) (fw_Mt rS rD rP rA t)) n 0) n rA da) → post 0)
    (h1 : (∀ t, t < 8192 → fw_ac (fw_ff (fw_lo1 (-1) (fw_Mt rS rD rP rA t)) n 0) n rA da = fw_ac (fw_ff (fw_lo1 (nI k) (fw_Mt rS rD rP rA t)) n 0) n rA da) → post 1) :
    ∀ d t, t + d = 8192 → (∀ s, s < t → fw_ac (fw_ff (fw_lo1 (-1) (fw_Mt rS rD rP rA s)) n 0) n rA da = fw_ac (fw_ff (fw_lo1 (nI k) (fw_Mt rS rD rP rA s)) n 0) n rA da) → ∀ f, d < f → wX_redundant_12 post (nI k) rc cc da (nI n) (nI m) ck r pr ad po st ex nx f (nI t) := by
  intro d
  induction d with
  | zero =>
    intro t ht hs f hf
    obtain ⟨f, rfl⟩ : ∃ g, f = g + 1 := ⟨f - 1, by omega⟩
    exact br_t (nI_le (a := 8192) (by omega) (by omega)) (h1 (fun s z => hs s (by omega)))
  | succ d ih =>
    intro t ht hs f hf
    obtain ⟨f, rfl⟩ : ∃ g, f = g + 1 := ⟨f - 1, by omega⟩
    refine br_f (nI_ge (b := 8192) (by omega) (by decide)) (fx_fmt R hn (by omega) (fx_fmt R hn (by omega) (fx_actionOf R hn (fx_actionOf R hn (br_c (fun e => nm_r (nI_1 t) (ih (t + 1) (by omega) (fun s z => ?_) f (by omega))) (fun e => h0 ⟨t, by omega, e⟩))))))
    by_cases y : s = t
    · rw [y]; exact e
    · exact hs s (by omega)
end DX
section DY
variable {rc cc da ck fd : Int32} {rS rD rP rA cp cs ct cd cu cst cx cn0 cn1 : Nat → Int32} {n m : Nat}
theorem fw_t1 {t : Nat} (ht : t < 8192) : nI t &&& 15 = nI (t % 16) := fw_lo (by omega)
theorem fw_t2 {t : Nat} (ht : t < 8192) : (nI t >>> ((4 : Int32) &&& 31)) &&& 15 = nI (t / 16 % 16) := by rw [fw_hi (by omega), fw_lo (by omega)]
theorem fw_t3 {t : Nat} (ht : t < 8192) : (nI t >>> ((8 : Int32) &&& 31)) &&& 15 = nI (t / 256 % 16) := by
  have e : nI t >>> ((8 : Int32) &&& 31) = nI (t / 256) := pk_shrN (by omega) _ 8 (by decide)
  rw [e, fw_lo (by omega)]
theorem fw_t4 {t : Nat} (ht : t < 8192) : nI t >>> ((12 : Int32) &&& 31) = nI (t / 4096) := pk_shrN (by omega) _ 12 (by decide)
theorem fy_cov {post : Int32 → Prop} {J : Int32 → Prop} {k t : Nat} {a b c d0 : Int32} (hk : k ≤ 16)
    (hA : (∀ i, i < k → fw_M rS rD rP rA a b c d0 i = false) → post 0) (hB : (∃ i, i < k ∧ fw_M rS rD rP rA a b c d0 i = true) → J (nI (t + 1))) :
    ∀ d j, j + d = k → (∀ i, i < j → fw_M rS rD rP rA a b c d0 i = false) → ∀ f, d < f → wY_shadowed_78 post J (nI k) (nI t) a b c d0 0 rc cc da (nI n) (nI m) ck fd rS rD rP rA cp cs ct cd cu cst cx cn0 cn1 f (nI j) := by
  intro d
  induction d with
  | zero =>
    intro j hj hs f hf
    obtain ⟨f, rfl⟩ : ∃ g, f = g + 1 := ⟨f - 1, by omega⟩
    exact br_t (nI_le (by omega) (by omega)) (br_t rfl (hA (fun i z => hs i (by omega))))
  | succ d ih =>
    intro j hj hs f hf
    obtain ⟨f, rfl⟩ : ∃ g, f = g + 1 := ⟨f - 1, by omega⟩
    refine br_f (nI_ge (by omega) (by omega)) (fy_matches (by omega) (fw_br (fun e => nm_r (nI_1 j) (ih (j + 1) (by omega) (fun i z => ?_) f (by omega))) (fun e => br_f (by decide) (nm_r (nI_1 t) (hB ⟨j, by omega, e⟩)))))
    by_cases y : i = j
    · rw [y]; exact e
    · exact hs i (by omega)
theorem fy_sh {post : Int32 → Prop} {k : Nat} (hn : n ≤ 16) (hk : k < n)
    (h0 : (∃ t, t < 8192 ∧ fw_ff (fw_Mt rS rD rP rA t) n 0 = k) → post 0) (h1 : (∀ t, t < 8192 → fw_ff (fw_Mt rS rD rP rA t) n 0 ≠ k) → post 1) :
    ∀ d t, t + d = 8192 → (∀ s, s < t → fw_ff (fw_Mt rS rD rP rA s) n 0 ≠ k) → ∀ f, d < f → wY_shadowed_22 post (nI k) rc cc da (nI n) (nI m) ck fd rS rD rP rA cp cs ct cd cu cst cx cn0 cn1 f (nI t) := by
  intro d
  induction d with
  | zero =>
    intro t ht hs f hf
    obtain ⟨f, rfl⟩ : ∃ g, f = g + 1 := ⟨f - 1, by omega⟩
    exact br_t (nI_le (a := 8192) (by omega) (by omega)) (h1 (fun s z => hs s (by omega)))
  | succ d ih =>
    intro t ht hs f hf
    obtain ⟨f, rfl⟩ : ∃ g, f = g + 1 := ⟨f - 1, by omega⟩
    have N : fw_ff (fw_Mt rS rD rP rA t) n 0 ≠ k → ∀ g, d < g → wY_shadowed_22 post (nI k) rc cc da (nI n) (nI m) ck fd rS rD rP rA cp cs ct cd cu cst cx cn0 cn1 g (nI (t + 1)) := fun c => ih (t + 1) (by omega) (fun s z => by
      by_cases y : s = t
      · rw [y]; exact c
      · exact hs s (by omega))
    refine br_f (nI_ge (b := 8192) (by omega) (by decide)) (nm_r (fw_t1 (by omega)) (nm_r (fw_t2 (by omega)) (nm_r (fw_t3 (by omega)) (nm_r (fw_t4 (by omega)) (fy_matches (by omega) (fw_br (fun e => nm_r (nI_1 t) (N (fun c => ?_) f (by omega))) (fun e => ⟨k + 1, fy_cov (by omega) (fun c => ?_) (fun ⟨i, hi, c⟩ => N (fun z => ?_) f (by omega)) k 0 (by omega) (fun i z => absurd z (Nat.not_lt_zero _)) (k + 1) (by omega)⟩)))))))
    · have z := ((fw_ff_iff _ hk).mp c).1
      exact absurd (z.symm.trans e) (by decide)
    · exact h0 ⟨t, by omega, (fw_ff_iff _ hk).mpr ⟨e, c⟩⟩
    · have y := ((fw_ff_iff _ hk).mp z).2 i hi
      exact absurd (y.symm.trans c) (by decide)
theorem fy_rd {post : Int32 → Prop} {k : Nat} (hn : n ≤ 16)
    (h0 : (∃ t, t < 8192 ∧ ¬ fw_ac (fw_ff (fw_lo1 (-1) (fw_Mt rS rD rP rA t)) n 0) n rA da = fw_ac (fw_ff (fw_lo1 (nI k) (fw_Mt rS rD rP rA t)) n 0) n rA da) → post 0)
    (h1 : (∀ t, t < 8192 → fw_ac (fw_ff (fw_lo1 (-1) (fw_Mt rS rD rP rA t)) n 0) n rA da = fw_ac (fw_ff (fw_lo1 (nI k) (fw_Mt rS rD rP rA t)) n 0) n rA da) → post 1) :
    ∀ d t, t + d = 8192 → (∀ s, s < t → fw_ac (fw_ff (fw_lo1 (-1) (fw_Mt rS rD rP rA s)) n 0) n rA da = fw_ac (fw_ff (fw_lo1 (nI k) (fw_Mt rS rD rP rA s)) n 0) n rA da) → ∀ f, d < f → wY_redundant_16 post (nI k) rc cc da (nI n) (nI m) ck fd rS rD rP rA cp cs ct cd cu cst cx cn0 cn1 f (nI t) := by
  intro d
  induction d with
  | zero =>
    intro t ht hs f hf
    obtain ⟨f, rfl⟩ : ∃ g, f = g + 1 := ⟨f - 1, by omega⟩
    exact br_t (nI_le (a := 8192) (by omega) (by omega)) (h1 (fun s z => hs s (by omega)))
  | succ d ih =>
    intro t ht hs f hf
    obtain ⟨f, rfl⟩ : ∃ g, f = g + 1 := ⟨f - 1, by omega⟩
    refine br_f (nI_ge (b := 8192) (by omega) (by decide)) (nm_r (fw_t1 (by omega)) (nm_r (fw_t2 (by omega)) (nm_r (fw_t3 (by omega)) (nm_r (fw_t4 (by omega)) (fy_decide hn (fy_decide hn (br_c (fun e => nm_r (nI_1 t) (ih (t + 1) (by omega) (fun s z => ?_) f (by omega))) (fun e => h0 ⟨t, by omega, e⟩))))))))
    by_cases y : s = t
    · rw [y]; exact e
    · exact hs s (by omega)
end DY
theorem i_vc_shadowed {k : Nat} {u : SX} {v : SY} (I : i_Rel k u v) (hk : k + 5 ≤ 2563) (v1 : Int32) : wpX_shadowed (fun r => wpY_shadowed (fun r' => r' = r ∧ i_Rel (k + 5) u v) v v1) u v1 := by
  have I' := I
  obtain ⟨rc, cc, n, m, da, ck, fd, r, pr, ad, po, st, ex, nx, rS, rD, rP, rA, cp, cs, ct, cd, cu, cst, cx, cn0, cn1, rfl, rfl, hrc, hcc, hnr, hmc, R, E⟩ := I
  have hn : n ≤ 16 := by omega
  unfold wpX_shadowed wpY_shadowed
  dsimp only
  refine fx_holdsRule (fw_br (fun b => ?_) (fun b => ?_))
  · refine br_c (fun _ => ⟨rfl, I'⟩) (fun a => br_c (fun c => ?_) (fun _ => ⟨rfl, I'⟩))
    exact absurd ((fw_in_n hn).mpr (fw_rn hn a c)) (by rw [b]; decide)
  · obtain ⟨j, hj, rfl⟩ := (fw_in_n hn).mp b
    refine ⟨8193, fx_sh R hn hj (fun h => ?_) (fun h => ?_) 8192 0 (by omega) (fun s z => absurd z (Nat.not_lt_zero _)) 8193 (by omega)⟩
    · refine br_f (nI_pos (by omega)) (br_t (nI_lt hj (by omega)) (br_c (fun _ => ⟨rfl, I'⟩) (fun _ => ⟨8193, fy_sh hn hj (fun _ => ⟨rfl, I'⟩) (fun c => ?_) 8192 0 (by omega) (fun s z => absurd z (Nat.not_lt_zero _)) 8193 (by omega)⟩)))
      obtain ⟨t, ht, e⟩ := h
      exact absurd e (c t ht)
    · refine br_f (nI_pos (by omega)) (br_t (nI_lt hj (by omega)) (br_c (fun z => ?_) (fun _ => ⟨8193, fy_sh hn hj (fun c => ?_) (fun _ => ⟨rfl, I'⟩) 8192 0 (by omega) (fun s z => absurd z (Nat.not_lt_zero _)) 8193 (by omega)⟩)))
      · have e0 : j = 0 := (nI_eq (b := 0) (by omega) (by decide)).mp z
        subst e0
        obtain ⟨t, ht, e⟩ := fw_sh0 R hj
        exact absurd e (h t ht)
      · obtain ⟨t, ht, e⟩ := c
        exact absurd e (h t ht)
theorem i_vc_redundant {k : Nat} {u : SX} {v : SY} (I : i_Rel k u v) (hk : k + 5 ≤ 2563) (v1 : Int32) : wpX_redundant (fun r => wpY_redundant (fun r' => r' = r ∧ i_Rel (k + 5) u v) v v1) u v1 := by
  have I' := I
  obtain ⟨rc, cc, n, m, da, ck, fd, r, pr, ad, po, st, ex, nx, rS, rD, rP, rA, cp, cs, ct, cd, cu, cst, cx, cn0, cn1, rfl, rfl, hrc, hcc, hnr, hmc, R, E⟩ := I
  have hn : n ≤ 16 := by omega
  unfold wpX_redundant wpY_redundant
  dsimp only
  refine fx_holdsRule (fw_br (fun b => ?_) (fun b => ?_))
  · refine br_c (fun _ => ⟨rfl, I'⟩) (fun a => br_c (fun c => ?_) (fun _ => ⟨rfl, I'⟩))
    exact absurd ((fw_in_n hn).mpr (fw_rn hn a c)) (by rw [b]; decide)
  · obtain ⟨j, hj, rfl⟩ := (fw_in_n hn).mp b
    refine ⟨8193, fx_rd R hn (fun h => ?_) (fun h => ?_) 8192 0 (by omega) (fun s z => absurd z (Nat.not_lt_zero _)) 8193 (by omega)⟩
    · refine br_f (nI_pos (by omega)) (br_t (nI_lt hj (by omega)) ⟨8193, fy_rd hn (fun _ => ⟨rfl, I'⟩) (fun c => ?_) 8192 0 (by omega) (fun s z => absurd z (Nat.not_lt_zero _)) 8193 (by omega)⟩)
      obtain ⟨t, ht, e⟩ := h
      exact absurd (c t ht) e
    · refine br_f (nI_pos (by omega)) (br_t (nI_lt hj (by omega)) ⟨8193, fy_rd hn (fun c => ?_) (fun _ => ⟨rfl, I'⟩) 8192 0 (by omega) (fun s z => absurd z (Nat.not_lt_zero _)) 8193 (by omega)⟩)
      obtain ⟨t, ht, e⟩ := c
      exact absurd (h t ht) e
end
section
section EX
variable {da ck : Int32} {r pr ad po st ex nx : Nat → Int32} {rc n m : Nat} {cc : Int32}
theorem fx_add1 {post : Int32 → SX → Prop} {a b c d : Int32} (hrc : rc ≤ 16) (hn : n < rc) (h1 : fw_vp a = true) (h2 : fw_vp b = true) (h3 : fw_vq c = true) (h4 : fw_va d = true)
    (H : post (nI n) (nI rc, cc, da, nI (n + 1), nI m, ck, upd (upd (upd (upd r (4 * n) a) (4 * n + 1) b) (4 * n + 2) c) (4 * n + 3) d, pr, ad, po, st, ex, nx)) : wpX_addRule post (nI rc, cc, da, nI n, nI m, ck, r, pr, ad, po, st, ex, nx) a b c d := by
  unfold wpX_addRule
  dsimp only
  refine fx_validPrefix (fw_bt h1 (fx_validPrefix (fw_bt h2 (fx_validPortRange (fw_bt h3 (fx_validProtoAction (fw_bt h4 (br_t (nI_lt hn (by omega)) ?_))))))))
  intro x6 e6
  subst e6
  rw [fw_40, fw_41, fw_42, fw_43, nI_clamp (n := 4 * n) (by omega), nI_clamp (n := 4 * n + 1) (by omega), nI_clamp (n := 4 * n + 2) (by omega), nI_clamp (n := 4 * n + 3) (by omega)]
  exact ⟨vp_in_nI (by omega) (by decide), nm_e ⟨vp_in_nI (by omega) (by decide), nm_e ⟨vp_in_nI (by omega) (by decide), nm_e ⟨vp_in_nI (by omega) (by decide), nm_e (nm_r (nI_1 n) H)⟩⟩⟩⟩
theorem fx_add0 {post : Int32 → SX → Prop} {a b c d : Int32} (hrc : rc ≤ 16) (hnr : n ≤ rc) (hG : ¬ (n < rc ∧ fw_vp a = true ∧ fw_vp b = true ∧ fw_vq c = true ∧ fw_va d = true))
    (H : post (-1) (nI rc, cc, da, nI n, nI m, ck, r, pr, ad, po, st, ex, nx)) : wpX_addRule post (nI rc, cc, da, nI n, nI m, ck, r, pr, ad, po, st, ex, nx) a b c d := by
  unfold wpX_addRule
  dsimp only
  refine fx_validPrefix (fw_br (fun _ => H) (fun h1 => fx_validPrefix (fw_br (fun _ => H) (fun h2 => fx_validPortRange (fw_br (fun _ => H) (fun h3 => fx_validProtoAction (fw_br (fun _ => H) (fun h4 => br_c (fun z => ?_) (fun _ => H)))))))))
  exact absurd ⟨(nI_ltI (by omega) (by omega)).mp z, h1, h2, h3, h4⟩ hG
theorem fx_rr {post : Int32 → SX → Prop} {k n' : Nat} (hn : n' < 16) {r0 : Nat → Int32}
    (H : ∀ r', fw_mv r0 r' 4 (4 * k) (4 * n') → post (nI n') (nI rc, cc, da, nI n', nI m, ck, r', pr, ad, po, st, ex, nx)) :
    ∀ d c, c + d = 4 * n' → 4 * k ≤ c → ∀ r' f, fw_mv r0 r' 4 (4 * k) c → d < f → wX_removeRule_31 post (nI (4 * n')) (nI rc) cc da (nI n') (nI m) ck f (nI c) r' pr ad po st ex nx := by
  intro d
  induction d with
  | zero =>
    intro c hc hk r' f h hf
    obtain ⟨f, rfl⟩ : ∃ g, f = g + 1 := ⟨f - 1, by omega⟩
    have e : c = 4 * n' := by omega
    subst e
    exact br_t (nI_le (by omega) (by omega)) (H r' h)
  | succ d ih =>
    intro c hc hk r' f h hf
    obtain ⟨f, rfl⟩ : ∃ g, f = g + 1 := ⟨f - 1, by omega⟩
    have e4 : nI c + 4 = nI (c + 4) := nI_add c 4
    rw [wX_removeRule_31]
    dsimp only
    rw [e4, nI_clamp (n := c) (by omega), nI_clamp (n := c + 4) (by omega)]
    exact br_f (nI_ge (by omega) (by omega)) ⟨vp_in_nI (by omega) (by decide), vp_in_nI (by omega) (by decide), nm_e (nm_r (nI_1 c) (ih (c + 1) (by omega) (by omega) _ f (fw_mv_s (by decide) hk h) (by omega)))⟩
end EX
section EY
variable {da ck fd cc : Int32} {rS rD rP rA cp cs ct cd cu cst cx cn0 cn1 : Nat → Int32} {rc n m : Nat}
theorem fy_add1 {post : Int32 → SY → Prop} {a b c d : Int32} (hrc : rc ≤ 16) (hn : n < rc) (h1 : fw_vp a = true) (h2 : fw_vp b = true) (h3 : fw_vq c = true) (h4 : fw_va d = true)
    (H : post (nI n) (nI rc, cc, da, nI (n + 1), nI m, ck, fd, upd rS n a, upd rD n b, upd rP n c, upd rA n d, cp, cs, ct, cd, cu, cst, cx, cn0, cn1)) : wpY_addRule post (nI rc, cc, da, nI n, nI m, ck, fd, rS, rD, rP, rA, cp, cs, ct, cd, cu, cst, cx, cn0, cn1) a b c d := by
  have h3' := h3
  have h4' := h4
  unfold fw_vq at h3'
  unfold fw_va at h4'
  rw [Bool.and_eq_true] at h3' h4'
  obtain ⟨a1, a2⟩ := fw_in_t h3'.1
  obtain ⟨b1, b2⟩ := fw_in_t h4'.1
  have a3 := of_decide_eq_true h3'.2
  have b3 := (fw_vk h1 h2 h3 h4).2.2.2.2.2
  unfold wpY_addRule
  dsimp only
  refine br_t (nI_lt hn (by omega)) (fy_validPrefix (fw_bt h1 (fy_validPrefix (fw_bt h2 (br_f a1 (br_t a2 (br_t a3 (br_f b1 (br_t b2 (br_f b3 ?_)))))))))) 
  rw [nI_clamp (n := n) (by omega)]
  have v : vp_in (nI n) 16 := vp_in_nI (by omega) (by decide)
  refine ⟨v, nm_e ⟨v, nm_e ⟨v, nm_e ⟨v, nm_e (nm_r (nI_1 n) ?_)⟩⟩⟩⟩
  rw [nI_pred]
  exact H
theorem fy_add0 {post : Int32 → SY → Prop} {a b c d : Int32} (hrc : rc ≤ 16) (hnr : n ≤ rc) (hG : ¬ (n < rc ∧ fw_vp a = true ∧ fw_vp b = true ∧ fw_vq c = true ∧ fw_va d = true))
    (H : post (-1) (nI rc, cc, da, nI n, nI m, ck, fd, rS, rD, rP, rA, cp, cs, ct, cd, cu, cst, cx, cn0, cn1)) : wpY_addRule post (nI rc, cc, da, nI n, nI m, ck, fd, rS, rD, rP, rA, cp, cs, ct, cd, cu, cst, cx, cn0, cn1) a b c d := by
  unfold wpY_addRule
  dsimp only
  refine br_c (fun z => fy_validPrefix (fw_br (fun _ => H) (fun h1 => fy_validPrefix (fw_br (fun _ => H) (fun h2 => br_c (fun _ => H) (fun a1 => br_c (fun a2 => br_c (fun a3 => br_c (fun _ => H) (fun b1 => br_c (fun b2 => br_c (fun _ => H) (fun b3 => ?_)) (fun _ => H))) (fun _ => H)) (fun _ => H)))))))  (fun _ => H)
  refine absurd ⟨(nI_ltI (by omega) (by omega)).mp z, h1, h2, ?_, ?_⟩ hG
  · unfold fw_vq
    rw [fw_in_m a1 a2, decide_eq_true a3]
    rfl
  · unfold fw_va
    rw [fw_in_m b1 b2, decide_eq_false b3]
    rfl
theorem fy_rr {post : Int32 → SY → Prop} {k n' : Nat} (hn : n' < 16) {s0 d0 p0 a0 : Nat → Int32}
    (H : ∀ s' d' p' a', fw_mv s0 s' 1 k n' → fw_mv d0 d' 1 k n' → fw_mv p0 p' 1 k n' → fw_mv a0 a' 1 k n' → post (nI n') (nI rc, cc, da, nI n', nI m, ck, fd, s', d', p', a', cp, cs, ct, cd, cu, cst, cx, cn0, cn1)) :
    ∀ d j, j + d = n' → k ≤ j → ∀ s' d' p' a' f, fw_mv s0 s' 1 k j → fw_mv d0 d' 1 k j → fw_mv p0 p' 1 k j → fw_mv a0 a' 1 k j → d < f → wY_removeRule_16 post (nI rc) cc da (nI (n' + 1)) (nI m) ck fd f (nI j) s' d' p' a' cp cs ct cd cu cst cx cn0 cn1 := by
  intro d
  induction d with
  | zero =>
    intro j hj hk s' d' p' a' f h1 h2 h3 h4 hf
    obtain ⟨f, rfl⟩ : ∃ g, f = g + 1 := ⟨f - 1, by omega⟩
    have e : j = n' := by omega
    subst e
    rw [wY_removeRule_16, nI_pred]
    exact br_t (nI_le (by omega) (by omega)) (nm_e (H s' d' p' a' h1 h2 h3 h4))
  | succ d ih =>
    intro j hj hk s' d' p' a' f h1 h2 h3 h4 hf
    obtain ⟨f, rfl⟩ : ∃ g, f = g + 1 := ⟨f - 1, by omega⟩
    rw [wY_removeRule_16]
    dsimp only
    rw [nI_pred, nI_1 j, nI_clamp (n := j) (by omega), nI_clamp (n := j + 1) (by omega)]
    have v : vp_in (nI j) 16 := vp_in_nI (by omega) (by decide)
    have v' : vp_in (nI (j + 1)) 16 := vp_in_nI (by omega) (by decide)
    exact br_f (nI_ge (by omega) (by omega)) ⟨v', v, nm_e ⟨v', v, nm_e ⟨v', v, nm_e ⟨v', v, nm_e (nm_e (ih (j + 1) (by omega) (by omega) _ _ _ _ f (fw_mv_s (by decide) hk h1) (fw_mv_s (by decide) hk h2) (fw_mv_s (by decide) hk h3) (fw_mv_s (by decide) hk h4) (by omega)))⟩⟩⟩⟩
end EY
theorem i_vc_addRule {k : Nat} {u : SX} {v : SY} (I : i_Rel k u v) (hk : k + 5 ≤ 2563) (v1 : Int32) (v2 : Int32) (v3 : Int32) (v4 : Int32) : wpX_addRule (fun r u' => wpY_addRule (fun r' v' => r' = r ∧ i_Rel (k + 5) u' v') v v1 v2 v3 v4) u v1 v2 v3 v4 := by
  have I' := I
  obtain ⟨rc, cc, n, m, da, ck, fd, r, pr, ad, po, st, ex, nx, rS, rD, rP, rA, cp, cs, ct, cd, cu, cst, cx, cn0, cn1, rfl, rfl, hrc, hcc, hnr, hmc, R, E⟩ := I
  by_cases hG : n < rc ∧ fw_vp v1 = true ∧ fw_vp v2 = true ∧ fw_vq v3 = true ∧ fw_va v4 = true
  · obtain ⟨h0, h1, h2, h3, h4⟩ := hG
    refine fx_add1 hrc h0 h1 h2 h3 h4 (fy_add1 hrc h0 h1 h2 h3 h4 ⟨rfl, ?_⟩)
    exact ⟨rc, cc, n + 1, m, da, ck, fd, _, pr, ad, po, st, ex, nx, _, _, _, _, cp, cs, ct, cd, cu, cst, cx, cn0, cn1, rfl, rfl, hrc, hcc, h0, hmc, fw_R_add R (fw_vk h1 h2 h3 h4), E⟩
  · exact fx_add0 hrc hnr hG (fy_add0 hrc hnr hG ⟨rfl, I'⟩)
theorem i_vc_removeRule {k : Nat} {u : SX} {v : SY} (I : i_Rel k u v) (hk : k + 5 ≤ 2563) (v1 : Int32) : wpX_removeRule (fun r u' => wpY_removeRule (fun r' v' => r' = r ∧ i_Rel (k + 5) u' v') v v1) u v1 := by
  have I' := I
  obtain ⟨rc, cc, n, m, da, ck, fd, r, pr, ad, po, st, ex, nx, rS, rD, rP, rA, cp, cs, ct, cd, cu, cst, cx, cn0, cn1, rfl, rfl, hrc, hcc, hnr, hmc, R, E⟩ := I
  have hn : n ≤ 16 := by omega
  unfold wpX_removeRule wpY_removeRule
  dsimp only
  refine fx_holdsRule (fw_br (fun b => ?_) (fun b => ?_))
  · refine br_c (fun _ => ⟨rfl, I'⟩) (fun a => br_c (fun c => ?_) (fun _ => ⟨rfl, I'⟩))
    exact absurd ((fw_in_n hn).mpr (fw_rn hn a c)) (by rw [b]; decide)
  · obtain ⟨j, hj, rfl⟩ := (fw_in_n hn).mp b
    obtain ⟨n', rfl⟩ : ∃ n', n = n' + 1 := ⟨n - 1, by omega⟩
    refine nm_r (nI_pred n') (nm_r (pk_mul 4 n') (nm_r (pk_mul 4 j) ⟨4 * n' + 1, fx_rr (k := j) (n' := n') (by omega) (fun r' hr => ?_) (4 * n' - 4 * j) (4 * j) (by omega) (Nat.le_refl _) r (4 * n' + 1) (fw_mv_0 r 4 (4 * j)) (by omega)⟩))
    refine br_f (nI_pos (by omega)) (br_t (nI_lt hj (by omega)) ⟨n' + 1, fy_rr (k := j) (n' := n') (by omega) (fun s' d' p' a' h1 h2 h3 h4 => ⟨rfl, ?_⟩) (n' - j) j (by omega) (Nat.le_refl _) rS rD rP rA (n' + 1) (fw_mv_0 _ _ _) (fw_mv_0 _ _ _) (fw_mv_0 _ _ _) (fw_mv_0 _ _ _) (by omega)⟩)
    exact ⟨rc, cc, n', m, da, ck, fd, r', pr, ad, po, st, ex, nx, s', d', p', a', cp, cs, ct, cd, cu, cst, cx, cn0, cn1, rfl, rfl, hrc, hcc, by omega, hmc, fw_R_del R hr (by omega) h1 h2 h3 h4, E⟩
theorem i_vc_ruleInfo {k : Nat} {u : SX} {v : SY} (I : i_Rel k u v) (hk : k + 5 ≤ 2563) (v1 : Int32) (v2 : Int32) : wpX_ruleInfo (fun r => wpY_ruleInfo (fun r' => r' = r ∧ i_Rel (k + 5) u v) v v1 v2) u v1 v2 := by
  have I' := I
  obtain ⟨rc, cc, n, m, da, ck, fd, r, pr, ad, po, st, ex, nx, rS, rD, rP, rA, cp, cs, ct, cd, cu, cst, cx, cn0, cn1, rfl, rfl, hrc, hcc, hnr, hmc, R, E⟩ := I
  have hn : n ≤ 16 := by omega
  unfold wpX_ruleInfo wpY_ruleInfo
  dsimp only
  refine fx_holdsRule (fw_br (fun b => ?_) (fun b => fx_inRange (fw_br (fun c => ?_) (fun c => ?_))))
  · refine br_c (fun _ => ⟨rfl, I'⟩) (fun a => br_c (fun _ => ⟨rfl, I'⟩) (fun c => ?_))
    exact absurd ((fw_in_n hn).mpr (fw_rn hn a (Int32.not_le.mp c))) (by rw [b]; decide)
  · refine br_c (fun _ => ⟨rfl, I'⟩) (fun _ => br_c (fun _ => ⟨rfl, I'⟩) (fun _ => br_c (fun _ => ⟨rfl, I'⟩) (fun a => br_c (fun d => ?_) (fun _ => ⟨rfl, I'⟩))))
    exact absurd (fw_in_m a d) (by rw [c]; decide)
  · obtain ⟨j, hj, rfl⟩ := (fw_in_n hn).mp b
    obtain ⟨k1, k2, k3, k4, _⟩ := R j hj
    obtain ⟨c1, c2⟩ := fw_in_t c
    obtain ⟨q, hq, rfl⟩ : fw_r 4 v2 := (fw_in_r 3 (by decide)).mp c
    have e : 4 * nI j + nI q = nI (4 * j + q) := (congrArg (· + nI q) (pk_mul 4 j)).trans (nI_add _ q)
    have v : vp_in (nI j) 16 := vp_in_nI (by omega) (by decide)
    rw [e, nI_clamp (n := 4 * j + q) (by omega), nI_clamp (n := j) (by omega)]
    refine ⟨vp_in_nI (by omega) (by decide), br_f (nI_pos (by omega)) (br_f (nI_ge hj (by omega)) (br_f c1 (br_t c2 ?_)))⟩
    have q4 : q = 0 ∨ q = 1 ∨ q = 2 ∨ q = 3 := by omega
    rcases q4 with rfl | rfl | rfl | rfl
    · exact br_t rfl ⟨v, k1.symm, I'⟩
    · exact br_f (by decide) (br_t rfl ⟨v, k2.symm, I'⟩)
    · exact br_f (by decide) (br_f (by decide) (br_t rfl ⟨v, k3.symm, I'⟩))
    · exact br_f (by decide) (br_f (by decide) (br_f (by decide) ⟨v, k4.symm, I'⟩))
end
section
theorem fw_ne1 {a : Nat} (h : a < 2 ^ 31) : ¬ nI a = -1 := by
  intro e
  have h9 : ¬ nI a < 0 := nI_pos h
  rw [e] at h9
  exact h9 (by decide)
theorem fw_20 (i : Nat) : 2 * nI i + 0 = nI (2 * i + 0) := by rw [Int32.add_zero]; exact pk_mul 2 i
theorem fw_21 (i : Nat) : 2 * nI i + 1 = nI (2 * i + 1) := (congrArg (· + 1) (pk_mul 2 i)).trans (nI_1 _)
theorem fw_h2 {i d : Nat} (hi : i < 16) (hd : d < 2) : nI (2 * i + d) / 2 = nI i := by
  have e : nI (2 * i + d) / 2 = nI ((2 * i + d) / 2) := pk_div (d := 2) (by omega) (by decide) (by decide)
  rw [e, show (2 * i + d) / 2 = i from by omega]
theorem fw_h1 {i d : Nat} (hi : i < 16) (hd : d < 2) : nI (2 * i + d) - nI (2 * i + d) / 2 * 2 = nI d := by
  have e : nI (2 * i + d) - nI (2 * i + d) / 2 * 2 = nI ((2 * i + d) % 2) := pk_rem (d := 2) (by omega) (by decide) (by decide)
  rw [e, show (2 * i + d) % 2 = d from by omega]
section LX
variable {rc cc da ck : Int32} {r pr ad po st ex nx : Nat → Int32} {n m : Nat}
theorem fx_so {post : Int32 → Prop} {a q p : Int32} (hm : m ≤ 16) (h1 : ∀ i, i < m → fw_key (fw_XT pr ad po st ex nx i) = (p, a, q) → post (nI i))
    (h2 : (∀ i, i < m → fw_key (fw_XT pr ad po st ex nx i) ≠ (p, a, q)) → post (-1)) :
    ∀ d i, i + d = m → (∀ j, j < i → fw_key (fw_XT pr ad po st ex nx j) ≠ (p, a, q)) → ∀ f, d < f → wX_slotOfOrigin_3 post a q p rc cc da (nI n) (nI m) ck r pr ad po st ex nx f (nI i) := by
  intro d
  induction d with
  | zero =>
    intro i hi hs f hf
    obtain ⟨f, rfl⟩ : ∃ g, f = g + 1 := ⟨f - 1, by omega⟩
    exact br_t (nI_le (by omega) (by omega)) (h2 (fun j z => hs j (by omega)))
  | succ d ih =>
    intro i hi hs f hf
    obtain ⟨f, rfl⟩ : ∃ g, f = g + 1 := ⟨f - 1, by omega⟩
    have v : vp_in (nI i) 16 := vp_in_nI (by omega) (by decide)
    have N : fw_key (fw_XT pr ad po st ex nx i) ≠ (p, a, q) → wX_slotOfOrigin_3 post a q p rc cc da (nI n) (nI m) ck r pr ad po st ex nx f (nI (i + 1)) := fun c => ih (i + 1) (by omega) (fun j z => by
      by_cases y : j = i
      · rw [y]; exact c
      · exact hs j (by omega)) f (by omega)
    rw [wX_slotOfOrigin_3]
    dsimp only
    rw [nI_clamp (n := i) (by omega)]
    refine br_f (nI_ge (by omega) (by omega)) ⟨v, br_c (fun e1 => ⟨v, br_c (fun e2 => ⟨v, br_c (fun e3 => h1 i (by omega) ?_) (fun e3 => nm_r (nI_1 i) (N (fun z => e3 (congrArg (fun t => t.1) z))))⟩) (fun e2 => nm_r (nI_1 i) (N (fun z => e2 (congrArg (fun t => t.2.2) z))))⟩) (fun e1 => nm_r (nI_1 i) (N (fun z => e1 (congrArg (fun t => t.2.1) z))))⟩
    show (pr i, ad i, po i) = (p, a, q)
    rw [e1, e2, e3]
theorem fx_slot {post : Int32 → Prop} {a q p : Int32} (hm : m ≤ 16) (h1 : ∀ i, i < m → fw_key (fw_XT pr ad po st ex nx i) = (p, a, q) → post (nI i))
    (h2 : (∀ i, i < m → fw_key (fw_XT pr ad po st ex nx i) ≠ (p, a, q)) → post (-1)) : wpX_slotOfOrigin post (rc, cc, da, nI n, nI m, ck, r, pr, ad, po, st, ex, nx) a q p :=
  ⟨m + 1, fx_so hm h1 h2 m 0 (by omega) (fun j z => absurd z (Nat.not_lt_zero _)) (m + 1) (by omega)⟩
theorem fx_swapPair {post : Int32 → Prop} {a : Nat} (ha : a < 256) (H : post (nI (fw_sw a))) : wpX_swapPair post (nI a) := by
  unfold wpX_swapPair
  have e1 : nI a - nI a / 16 * 16 = nI (a % 16) := pk_rem (d := 16) (by omega) (by decide) (by decide)
  have e2 : nI a / 16 = nI (a / 16) := pk_div (d := 16) (by omega) (by decide) (by decide)
  have e3 : (16 : Int32) * nI (a % 16) = nI (16 * (a % 16)) := pk_mul 16 (a % 16)
  rw [e1, e2, e3, nI_add]
  exact ⟨by decide, by decide, H⟩
theorem fx_lookup {post : Int32 → Prop} {p : Int32} {a q : Nat} (hm : m ≤ 16) (ha : a < 256) (hq : q < 256)
    (h1 : ∀ i d, fw_F (fw_XT pr ad po st ex nx) m p a q i d → post (nI (2 * i + d))) (h2 : fw_none (fw_XT pr ad po st ex nx) m p a q → post (-1)) :
    wpX_lookup post (rc, cc, da, nI n, nI m, ck, r, pr, ad, po, st, ex, nx) (nI a) (nI q) p := by
  unfold wpX_lookup
  dsimp only
  refine fx_slot hm (fun i hi hk => br_f (fw_ne1 (by omega)) ?_) (fun hn => br_t rfl (fx_swapPair ha (fx_swapPair hq (fx_slot hm (fun i hi hk => br_f (fw_ne1 (by omega)) ?_) (fun hn' => br_t rfl (h2 ?_))))))
  · rw [fw_20]
    exact h1 i 0 ⟨hi, by decide, hk.trans fw_K0.symm, fun e z => absurd z (Nat.not_lt_zero _)⟩
  · rw [fw_21]
    refine h1 i 1 ⟨hi, by decide, hk.trans fw_K1.symm, fun e z j hj => ?_⟩
    have e0 : e = 0 := by omega
    rw [e0, fw_K0]
    exact hn j hj
  · intro e z j hj
    have e0 : e = 0 ∨ e = 1 := by omega
    rcases e0 with e0 | e0
    · rw [e0, fw_K0]; exact hn j hj
    · rw [e0, fw_K1]; exact hn' j hj
end LX
section LY
variable {rc cc da ck fd : Int32} {rS rD rP rA pr ad po st ex nx cp cs ct cd cu cst cx cn0 cn1 : Nat → Int32} {n m : Nat}
theorem fy_l86 {post : Int32 → SY → Prop} {x1 x2 x3 x4 x5 : Int32} (hm : m ≤ 16) (h1 : ∀ j, j < m → (cp j = x1 ∧ cs j = x4 ∧ ct j = x5 ∧ cd j = x2 ∧ cu j = x3) → post (nI j) (rc, cc, da, nI n, nI m, ck, 1, rS, rD, rP, rA, cp, cs, ct, cd, cu, cst, cx, cn0, cn1))
    (h2 : (∀ j, j < m → ¬ (cp j = x1 ∧ cs j = x4 ∧ ct j = x5 ∧ cd j = x2 ∧ cu j = x3)) → post (-1) (rc, cc, da, nI n, nI m, ck, fd, rS, rD, rP, rA, cp, cs, ct, cd, cu, cst, cx, cn0, cn1)) :
    ∀ d i, i + d = m → (∀ j, j < i → ¬ (cp j = x1 ∧ cs j = x4 ∧ ct j = x5 ∧ cd j = x2 ∧ cu j = x3)) → ∀ f, d < f → wY_lookup_86 post x1 x2 x3 x4 x5 rc cc da (nI n) (nI m) ck fd rS rD rP rA cp cs ct cd cu cst cx cn0 cn1 f (nI i) := by
  intro d
  induction d with
  | zero =>
    intro i hi hs f hf
    obtain ⟨f, rfl⟩ : ∃ g, f = g + 1 := ⟨f - 1, by omega⟩
    exact br_t (nI_le (by omega) (by omega)) (h2 (fun j z => hs j (by omega)))
  | succ d ih =>
    intro i hi hs f hf
    obtain ⟨f, rfl⟩ : ∃ g, f = g + 1 := ⟨f - 1, by omega⟩
    have v : vp_in (nI i) 16 := vp_in_nI (by omega) (by decide)
    have N : ¬ (cp i = x1 ∧ cs i = x4 ∧ ct i = x5 ∧ cd i = x2 ∧ cu i = x3) → wY_lookup_86 post x1 x2 x3 x4 x5 rc cc da (nI n) (nI m) ck fd rS rD rP rA cp cs ct cd cu cst cx cn0 cn1 f (nI (i + 1)) := fun c => ih (i + 1) (by omega) (fun j z => by
      by_cases y : j = i
      · rw [y]; exact c
      · exact hs j (by omega)) f (by omega)
    rw [wY_lookup_86]
    dsimp only
    rw [nI_clamp (n := i) (by omega)]
    exact br_f (nI_ge (by omega) (by omega)) ⟨v, br_c (fun e1 => ⟨v, br_c (fun e2 => ⟨v, br_c (fun e3 => ⟨v, br_c (fun e4 => ⟨v, br_c (fun e5 => h1 i (by omega) ⟨e1, e2, e3, e4, e5⟩)
      (fun e => nm_r (nI_1 i) (N (fun z => e z.2.2.2.2)))⟩) (fun e => nm_r (nI_1 i) (N (fun z => e z.2.2.2.1)))⟩) (fun e => nm_r (nI_1 i) (N (fun z => e z.2.2.1)))⟩) (fun e => nm_r (nI_1 i) (N (fun z => e z.2.1)))⟩) (fun e => nm_r (nI_1 i) (N (fun z => e z.1)))⟩
theorem fy_l3 {post : Int32 → SY → Prop} {x1 x2 x3 x4 x5 : Int32} (hm : m ≤ 16) (h1 : ∀ j, j < m → (cp j = x1 ∧ cs j = x2 ∧ ct j = x3 ∧ cd j = x4 ∧ cu j = x5) → post (nI j) (rc, cc, da, nI n, nI m, ck, 0, rS, rD, rP, rA, cp, cs, ct, cd, cu, cst, cx, cn0, cn1))
    (h2 : (∀ j, j < m → ¬ (cp j = x1 ∧ cs j = x2 ∧ ct j = x3 ∧ cd j = x4 ∧ cu j = x5)) → ∃ f : Nat, wY_lookup_86 post x1 x2 x3 x4 x5 rc cc da (nI n) (nI m) ck fd rS rD rP rA cp cs ct cd cu cst cx cn0 cn1 f 0) :
    ∀ d i, i + d = m → (∀ j, j < i → ¬ (cp j = x1 ∧ cs j = x2 ∧ ct j = x3 ∧ cd j = x4 ∧ cu j = x5)) → ∀ f, d < f → wY_lookup_3 post x1 x2 x3 x4 x5 rc cc da (nI n) (nI m) ck fd rS rD rP rA cp cs ct cd cu cst cx cn0 cn1 f (nI i) := by
  intro d
  induction d with
  | zero =>
    intro i hi hs f hf
    obtain ⟨f, rfl⟩ : ∃ g, f = g + 1 := ⟨f - 1, by omega⟩
    exact br_t (nI_le (by omega) (by omega)) (h2 (fun j z => hs j (by omega)))
  | succ d ih =>
    intro i hi hs f hf
    obtain ⟨f, rfl⟩ : ∃ g, f = g + 1 := ⟨f - 1, by omega⟩
    have v : vp_in (nI i) 16 := vp_in_nI (by omega) (by decide)
    have N : ¬ (cp i = x1 ∧ cs i = x2 ∧ ct i = x3 ∧ cd i = x4 ∧ cu i = x5) → wY_lookup_3 post x1 x2 x3 x4 x5 rc cc da (nI n) (nI m) ck fd rS rD rP rA cp cs ct cd cu cst cx cn0 cn1 f (nI (i + 1)) := fun c => ih (i + 1) (by omega) (fun j z => by
      by_cases y : j = i
      · rw [y]; exact c
      · exact hs j (by omega)) f (by omega)
    rw [wY_lookup_3]
    dsimp only
    rw [nI_clamp (n := i) (by omega)]
    exact br_f (nI_ge (by omega) (by omega)) ⟨v, br_c (fun e1 => ⟨v, br_c (fun e2 => ⟨v, br_c (fun e3 => ⟨v, br_c (fun e4 => ⟨v, br_c (fun e5 => h1 i (by omega) ⟨e1, e2, e3, e4, e5⟩)
      (fun e => nm_r (nI_1 i) (N (fun z => e z.2.2.2.2)))⟩) (fun e => nm_r (nI_1 i) (N (fun z => e z.2.2.2.1)))⟩) (fun e => nm_r (nI_1 i) (N (fun z => e z.2.2.1)))⟩) (fun e => nm_r (nI_1 i) (N (fun z => e z.2.1)))⟩) (fun e => nm_r (nI_1 i) (N (fun z => e z.1)))⟩
theorem fw_P0 {p : Int32} {a q j : Nat} (E : fw_E (fw_L (fw_XT pr ad po st ex nx) m) (fw_L (fw_YT cp cs ct cd cu cst cx cn0 cn1) m)) (hj : j < m) (ha : a < 256) (hq : q < 256) :
    fw_key (fw_g (fw_YT cp cs ct cd cu cst cx cn0 cn1 j)) = fw_K p a q 0 ↔ (cp j = p ∧ cs j = nI (a % 16) ∧ ct j = nI (q % 16) ∧ cd j = nI (a / 16) ∧ cu j = nI (q / 16)) := by
  rw [fw_K0]
  exact fw_kg (fw_oky E hj) ha hq
theorem fw_P1 {p : Int32} {a q j : Nat} (E : fw_E (fw_L (fw_XT pr ad po st ex nx) m) (fw_L (fw_YT cp cs ct cd cu cst cx cn0 cn1) m)) (hj : j < m) (ha : a < 256) (hq : q < 256) :
    fw_key (fw_g (fw_YT cp cs ct cd cu cst cx cn0 cn1 j)) = fw_K p a q 1 ↔ (cp j = p ∧ cs j = nI (a / 16) ∧ ct j = nI (q / 16) ∧ cd j = nI (a % 16) ∧ cu j = nI (q % 16)) := by
  rw [fw_K1]
  have h := fw_kg (p := p) (fw_oky E hj) (fw_swlt ha) (fw_swlt hq) (st := cst j) (ex := cx j) (n0 := cn0 j) (n1 := cn1 j) (pr := cp j)
  rw [fw_swlo ha, fw_swlo hq, fw_swhi ha, fw_swhi hq] at h
  exact h
theorem fy_lkF {post : Int32 → SY → Prop} {p : Int32} {a q i d : Nat} (E : fw_E (fw_L (fw_XT pr ad po st ex nx) m) (fw_L (fw_YT cp cs ct cd cu cst cx cn0 cn1) m)) (hm : m ≤ 16) (ha : a < 256) (hq : q < 256)
    (F : fw_F (fw_XT pr ad po st ex nx) m p a q i d) (H : ∀ j, j < m → fw_g (fw_YT cp cs ct cd cu cst cx cn0 cn1 j) = fw_XT pr ad po st ex nx i → post (nI j) (rc, cc, da, nI n, nI m, ck, nI d, rS, rD, rP, rA, cp, cs, ct, cd, cu, cst, cx, cn0, cn1)) :
    wpY_lookup post (rc, cc, da, nI n, nI m, ck, fd, rS, rD, rP, rA, cp, cs, ct, cd, cu, cst, cx, cn0, cn1) p (nI (a % 16)) (nI (q % 16)) (nI (a / 16)) (nI (q / 16)) := by
  have F' := F
  obtain ⟨hi, hd, hk, hno⟩ := F'
  obtain ⟨j0, hj0, hk0⟩ := fw_has E hi
  rw [hk] at hk0
  have hd2 : d = 0 ∨ d = 1 := by omega
  refine ⟨m + 1, fy_l3 hm (fun j hj c => ?_) (fun c => ⟨m + 1, fy_l86 hm (fun j hj c' => ?_) (fun c' => ?_) m 0 (by omega) (fun j z => absurd z (Nat.not_lt_zero _)) (m + 1) (by omega)⟩) m 0 (by omega) (fun j z => absurd z (Nat.not_lt_zero _)) (m + 1) (by omega)⟩
  · have h0 := (fw_P0 E hj ha hq).mpr c
    rcases hd2 with e | e
    · subst e
      exact H j hj (fw_found E F hj h0)
    · subst e
      obtain ⟨i', hi', e'⟩ := fw_hasY E hj
      exact absurd (e'.trans h0) (hno 0 (by decide) i' hi')
  · rcases hd2 with e | e
    · subst e
      exact absurd ((fw_P0 E hj0 ha hq).mp hk0) (c j0 hj0)
    · subst e
      exact H j hj (fw_found E F hj ((fw_P1 E hj ha hq).mpr c'))
  · rcases hd2 with e | e
    · subst e
      exact absurd ((fw_P0 E hj0 ha hq).mp hk0) (c j0 hj0)
    · subst e
      exact absurd ((fw_P1 E hj0 ha hq).mp hk0) (c' j0 hj0)
theorem fy_lkN {post : Int32 → SY → Prop} {p : Int32} {a q : Nat} (E : fw_E (fw_L (fw_XT pr ad po st ex nx) m) (fw_L (fw_YT cp cs ct cd cu cst cx cn0 cn1) m)) (hm : m ≤ 16) (ha : a < 256) (hq : q < 256)
    (F : fw_none (fw_XT pr ad po st ex nx) m p a q) (H : post (-1) (rc, cc, da, nI n, nI m, ck, fd, rS, rD, rP, rA, cp, cs, ct, cd, cu, cst, cx, cn0, cn1)) :
    wpY_lookup post (rc, cc, da, nI n, nI m, ck, fd, rS, rD, rP, rA, cp, cs, ct, cd, cu, cst, cx, cn0, cn1) p (nI (a % 16)) (nI (q % 16)) (nI (a / 16)) (nI (q / 16)) := by
  refine ⟨m + 1, fy_l3 hm (fun j hj c => ?_) (fun c => ⟨m + 1, fy_l86 hm (fun j hj c' => ?_) (fun c' => H) m 0 (by omega) (fun j z => absurd z (Nat.not_lt_zero _)) (m + 1) (by omega)⟩) m 0 (by omega) (fun j z => absurd z (Nat.not_lt_zero _)) (m + 1) (by omega)⟩
  · obtain ⟨i', hi', e'⟩ := fw_hasY E hj
    exact absurd (e'.trans ((fw_P0 E hj ha hq).mpr c)) (F 0 (by decide) i' hi')
  · obtain ⟨i', hi', e'⟩ := fw_hasY E hj
    exact absurd (e'.trans ((fw_P1 E hj ha hq).mpr c')) (F 1 (by decide) i' hi')
end LY
end
section
theorem i_vc_connState {k : Nat} {u : SX} {v : SY} (I : i_Rel k u v) (hk : k + 5 ≤ 2563) (v1 : Int32) (v2 : Int32) (v3 : Int32) : wpX_connState (fun r => wpY_connState (fun r' v' => r' = r ∧ i_Rel (k + 5) u v') v v1 v2 v3) u v1 v2 v3 := by
  have I' := I
  obtain ⟨rc, cc, n, m, da, ck, fd, r, pr, ad, po, st, ex, nx, rS, rD, rP, rA, cp, cs, ct, cd, cu, cst, cx, cn0, cn1, rfl, rfl, hrc, hcc, hnr, hmc, R, E⟩ := I
  have hm : m ≤ 16 := by omega
  have J : ∀ e, i_Rel (k + 5) (nI rc, nI cc, da, nI n, nI m, ck, r, pr, ad, po, st, ex, nx) (nI rc, nI cc, da, nI n, nI m, ck, e, rS, rD, rP, rA, cp, cs, ct, cd, cu, cst, cx, cn0, cn1) := fun e => ⟨rc, cc, n, m, da, ck, e, r, pr, ad, po, st, ex, nx, rS, rD, rP, rA, cp, cs, ct, cd, cu, cst, cx, cn0, cn1, rfl, rfl, hrc, hcc, hnr, hmc, R, E⟩
  unfold wpX_connState wpY_connState
  dsimp only
  refine fx_validHeader (fw_br (fun b => fy_validHdr (fw_bf b ⟨rfl, I'⟩)) (fun b => ?_))
  obtain ⟨⟨a, ha, rfl⟩, ⟨q, hq, rfl⟩, _⟩ := fw_hd_r b
  rw [fw_lo (a := a) (by omega), fw_hi (a := a) (by omega), fw_lo (a := q) (by omega), fw_hi (a := q) (by omega)]
  refine fx_lookup hm ha hq (fun i d F => br_f (fw_ne1 (by have := F.1; have := F.2.1; omega)) ?_) (fun N => br_t rfl ?_)
  · have hi := F.1
    have hd := F.2.1
    rw [fw_h2 (by omega) hd, nI_clamp (n := i) (by omega)]
    refine ⟨by decide, vp_in_nI (by omega) (by decide), fy_validHdr (fw_bt b (fy_lkF E hm ha hq F (fun j hj hg => br_t (nI_pos' (by omega)) ?_)))⟩
    rw [nI_clamp (n := j) (by omega)]
    exact ⟨vp_in_nI (by omega) (by decide), (fw_gx hg).2.2.2.1, J _⟩
  · exact fy_validHdr (fw_bt b (fy_lkN E hm ha hq N (br_f (by decide) ⟨rfl, I'⟩)))
theorem i_vc_connDirection {k : Nat} {u : SX} {v : SY} (I : i_Rel k u v) (hk : k + 5 ≤ 2563) (v1 : Int32) (v2 : Int32) (v3 : Int32) : wpX_connDirection (fun r => wpY_connDirection (fun r' v' => r' = r ∧ i_Rel (k + 5) u v') v v1 v2 v3) u v1 v2 v3 := by
  have I' := I
  obtain ⟨rc, cc, n, m, da, ck, fd, r, pr, ad, po, st, ex, nx, rS, rD, rP, rA, cp, cs, ct, cd, cu, cst, cx, cn0, cn1, rfl, rfl, hrc, hcc, hnr, hmc, R, E⟩ := I
  have hm : m ≤ 16 := by omega
  have J : ∀ e, i_Rel (k + 5) (nI rc, nI cc, da, nI n, nI m, ck, r, pr, ad, po, st, ex, nx) (nI rc, nI cc, da, nI n, nI m, ck, e, rS, rD, rP, rA, cp, cs, ct, cd, cu, cst, cx, cn0, cn1) := fun e => ⟨rc, cc, n, m, da, ck, e, r, pr, ad, po, st, ex, nx, rS, rD, rP, rA, cp, cs, ct, cd, cu, cst, cx, cn0, cn1, rfl, rfl, hrc, hcc, hnr, hmc, R, E⟩
  unfold wpX_connDirection wpY_connDirection
  dsimp only
  refine fx_validHeader (fw_br (fun b => fy_validHdr (fw_bf b ⟨rfl, I'⟩)) (fun b => ?_))
  obtain ⟨⟨a, ha, rfl⟩, ⟨q, hq, rfl⟩, _⟩ := fw_hd_r b
  rw [fw_lo (a := a) (by omega), fw_hi (a := a) (by omega), fw_lo (a := q) (by omega), fw_hi (a := q) (by omega)]
  refine fx_lookup hm ha hq (fun i d F => br_f (fw_ne1 (by have := F.1; have := F.2.1; omega)) ?_) (fun N => br_t rfl ?_)
  · have hi := F.1
    have hd := F.2.1
    rw [fw_h1 (by omega) hd]
    exact ⟨by decide, fy_validHdr (fw_bt b (fy_lkF E hm ha hq F (fun j hj hg => br_t (nI_pos' (by omega)) ⟨rfl, J _⟩)))⟩
  · exact fy_validHdr (fw_bt b (fy_lkN E hm ha hq N (br_f (by decide) ⟨rfl, I'⟩)))
theorem i_vc_connTimeLeft {k : Nat} {u : SX} {v : SY} (I : i_Rel k u v) (hk : k + 5 ≤ 2563) (v1 : Int32) (v2 : Int32) (v3 : Int32) : wpX_connTimeLeft (fun r => wpY_connTimeLeft (fun r' v' => r' = r ∧ i_Rel (k + 5) u v') v v1 v2 v3) u v1 v2 v3 := by
  have I' := I
  obtain ⟨rc, cc, n, m, da, ck, fd, r, pr, ad, po, st, ex, nx, rS, rD, rP, rA, cp, cs, ct, cd, cu, cst, cx, cn0, cn1, rfl, rfl, hrc, hcc, hnr, hmc, R, E⟩ := I
  have hm : m ≤ 16 := by omega
  have J : ∀ e, i_Rel (k + 5) (nI rc, nI cc, da, nI n, nI m, ck, r, pr, ad, po, st, ex, nx) (nI rc, nI cc, da, nI n, nI m, ck, e, rS, rD, rP, rA, cp, cs, ct, cd, cu, cst, cx, cn0, cn1) := fun e => ⟨rc, cc, n, m, da, ck, e, r, pr, ad, po, st, ex, nx, rS, rD, rP, rA, cp, cs, ct, cd, cu, cst, cx, cn0, cn1, rfl, rfl, hrc, hcc, hnr, hmc, R, E⟩
  unfold wpX_connTimeLeft wpY_connTimeLeft
  dsimp only
  refine fx_validHeader (fw_br (fun b => fy_validHdr (fw_bf b ⟨rfl, I'⟩)) (fun b => ?_))
  obtain ⟨⟨a, ha, rfl⟩, ⟨q, hq, rfl⟩, _⟩ := fw_hd_r b
  rw [fw_lo (a := a) (by omega), fw_hi (a := a) (by omega), fw_lo (a := q) (by omega), fw_hi (a := q) (by omega)]
  refine fx_lookup hm ha hq (fun i d F => br_f (fw_ne1 (by have := F.1; have := F.2.1; omega)) ?_) (fun N => br_t rfl ?_)
  · have hi := F.1
    have hd := F.2.1
    rw [fw_h2 (by omega) hd, nI_clamp (n := i) (by omega)]
    refine ⟨by decide, vp_in_nI (by omega) (by decide), fy_validHdr (fw_bt b (fy_lkF E hm ha hq F (fun j hj hg => br_t (nI_pos' (by omega)) ?_)))⟩
    rw [nI_clamp (n := j) (by omega)]
    exact ⟨vp_in_nI (by omega) (by decide), congrArg (fun z => z - ck) (fw_gx hg).2.2.2.2.1, J _⟩
  · exact fy_validHdr (fw_bt b (fy_lkN E hm ha hq N (br_f (by decide) ⟨rfl, I'⟩)))
theorem i_vc_connNextSeq {k : Nat} {u : SX} {v : SY} (I : i_Rel k u v) (hk : k + 5 ≤ 2563) (v1 : Int32) (v2 : Int32) (v3 : Int32) : wpX_connNextSeq (fun r => wpY_connNextSeq (fun r' v' => r' = r ∧ i_Rel (k + 5) u v') v v1 v2 v3) u v1 v2 v3 := by
  have I' := I
  obtain ⟨rc, cc, n, m, da, ck, fd, r, pr, ad, po, st, ex, nx, rS, rD, rP, rA, cp, cs, ct, cd, cu, cst, cx, cn0, cn1, rfl, rfl, hrc, hcc, hnr, hmc, R, E⟩ := I
  have hm : m ≤ 16 := by omega
  have J : ∀ e, i_Rel (k + 5) (nI rc, nI cc, da, nI n, nI m, ck, r, pr, ad, po, st, ex, nx) (nI rc, nI cc, da, nI n, nI m, ck, e, rS, rD, rP, rA, cp, cs, ct, cd, cu, cst, cx, cn0, cn1) := fun e => ⟨rc, cc, n, m, da, ck, e, r, pr, ad, po, st, ex, nx, rS, rD, rP, rA, cp, cs, ct, cd, cu, cst, cx, cn0, cn1, rfl, rfl, hrc, hcc, hnr, hmc, R, E⟩
  unfold wpX_connNextSeq wpY_connNextSeq
  dsimp only
  refine fx_validHeader (fw_br (fun b => fy_validHdr (fw_bf b ⟨rfl, I'⟩)) (fun b => ?_))
  obtain ⟨⟨a, ha, rfl⟩, ⟨q, hq, rfl⟩, _⟩ := fw_hd_r b
  rw [fw_lo (a := a) (by omega), fw_hi (a := a) (by omega), fw_lo (a := q) (by omega), fw_hi (a := q) (by omega)]
  refine fx_lookup hm ha hq (fun i d F => br_f (fw_ne1 (by have := F.1; have := F.2.1; omega)) ?_) (fun N => br_t rfl ?_)
  · have hi := F.1
    have hd := F.2.1
    obtain ⟨o1, o2, o3, o4, o5, o6, o7⟩ := fw_okx E hi
    have on : fw_N (nx (2 * i + d)) := by
      have hd2 : d = 0 ∨ d = 1 := by omega
      rcases hd2 with e | e
      · rw [e]; exact o5
      · rw [e]; exact o6
    have W : ∀ (x : Int32) (j : Nat), j < m → fw_g (fw_YT cp cs ct cd cu cst cx cn0 cn1 j) = fw_XT pr ad po st ex nx i → (nx (2 * i + d) = -1 → x = -2) → (¬ nx (2 * i + d) = -1 → x = nx (2 * i + d)) →
        ((cp j = 1 → (-2 = x ∧ i_Rel (k + 5) (nI rc, nI cc, da, nI n, nI m, ck, r, pr, ad, po, st, ex, nx) (nI rc, nI cc, da, nI n, nI m, ck, nI d, rS, rD, rP, rA, cp, cs, ct, cd, cu, cst, cx, cn0, cn1))) ∧ (¬ cp j = 1 → ((nI d = 0 → (vp_in (nI j) 16 ∧ wY_connNextSeq_79 (fun r' v' => r' = x ∧ i_Rel (k + 5) (nI rc, nI cc, da, nI n, nI m, ck, r, pr, ad, po, st, ex, nx) v') (cn0 j) (nI rc) (nI cc) da (nI n) (nI m) ck (nI d) rS rD rP rA cp cs ct cd cu cst cx cn0 cn1)) ∧ (¬ nI d = 0 → (vp_in (nI j) 16 ∧ wY_connNextSeq_79 (fun r' v' => r' = x ∧ i_Rel (k + 5) (nI rc, nI cc, da, nI n, nI m, ck, r, pr, ad, po, st, ex, nx) v') (cn1 j) (nI rc) (nI cc) da (nI n) (nI m) ck (nI d) rS rD rP rA cp cs ct cd cu cst cx cn0 cn1))))) := by
      intro x j hj hg x1 x2
      obtain ⟨g1, g2, g3, g4, g5, g6, g7⟩ := fw_gx hg
      have v : vp_in (nI j) 16 := vp_in_nI (by omega) (by decide)
      have S : ∀ y : Int32, y = nx (2 * i + d) → wY_connNextSeq_79 (fun r' v' => r' = x ∧ i_Rel (k + 5) (nI rc, nI cc, da, nI n, nI m, ck, r, pr, ad, po, st, ex, nx) v') y (nI rc) (nI cc) da (nI n) (nI m) ck (nI d) rS rD rP rA cp cs ct cd cu cst cx cn0 cn1 := by
        intro y e
        subst e
        rcases on with e | ⟨z, hz, e⟩
        · rw [e]
          exact br_f (by decide) ⟨(x1 e).symm, J _⟩
        · have e9 : ¬ nx (2 * i + d) = -1 := by rw [e]; exact fw_ne1 (by omega)
          refine br_t ?_ ⟨(x2 e9).symm, J _⟩
          rw [e]; exact nI_pos' (by omega)
      refine br_c (fun c => ⟨?_, J _⟩) (fun c => ?_)
      · have hp := o7 (g1.symm.trans c)
        have hd2 : d = 0 ∨ d = 1 := by omega
        rcases hd2 with e | e
        · subst e; exact (x1 hp.1).symm
        · subst e; exact (x1 hp.2).symm
      · rw [if_neg c] at g6 g7
        have hd2 : d = 0 ∨ d = 1 := by omega
        rcases hd2 with e | e
        · subst e
          exact br_t rfl ⟨v, S _ g6⟩
        · subst e
          exact br_f (by decide) ⟨v, S _ g7⟩
    have v : vp_in (nI (2 * i + d)) 32 := vp_in_nI (by omega) (by decide)
    rw [nI_clamp (n := 2 * i + d) (by omega)]
    refine ⟨v, br_c (fun z => fy_validHdr (fw_bt b (fy_lkF E hm ha hq F (fun j hj hg => br_t (nI_pos' (by omega)) ?_)))) (fun z => ⟨v, fy_validHdr (fw_bt b (fy_lkF E hm ha hq F (fun j hj hg => br_t (nI_pos' (by omega)) ?_)))⟩)⟩
    · rw [nI_clamp (n := j) (by omega)]
      exact ⟨vp_in_nI (by omega) (by decide), W (-2) j hj hg (fun _ => rfl) (fun y => absurd z y)⟩
    · rw [nI_clamp (n := j) (by omega)]
      exact ⟨vp_in_nI (by omega) (by decide), W (nx (2 * i + d)) j hj hg (fun y => absurd y z) (fun _ => rfl)⟩
  · exact fy_validHdr (fw_bt b (fy_lkN E hm ha hq N (br_f (by decide) ⟨rfl, I'⟩)))
end
section
theorem fw_2z (i : Nat) : 2 * nI i + 0 = nI (2 * i) := by rw [Int32.add_zero]; exact pk_mul 2 i
theorem fw_dec (s : Nat) : nI s + (-1) = nI s - 1 := (Int32.sub_eq_add_neg (nI s) 1).symm
/-- an entry lasts beyond the hour -/
def fw_q (T : Int32) : fw_T → Bool := fun (_, _, _, _, e, _, _) => decide (T < e)
section TX
variable {rc cc da ck : Int32} {r pr ad po st ex nx : Nat → Int32} {n m : Nat}
theorem fx_rem {post : SX → Prop} {i m' : Nat} (hm : m' < 16) (hi : i ≤ m')
    (H : post (rc, cc, da, nI n, nI m', ck, r, upd pr i (pr m'), upd ad i (ad m'), upd po i (po m'), upd st i (st m'), upd ex i (ex m'), upd (upd nx (2 * i) (nx (2 * m'))) (2 * i + 1) (nx (2 * m' + 1)))) : wpX_removeEntry post (rc, cc, da, nI n, nI (m' + 1), ck, r, pr, ad, po, st, ex, nx) (nI i) := by
  unfold wpX_removeEntry
  dsimp only
  intro x2 e2
  rw [nI_pred] at e2
  subst e2
  have v : vp_in (nI i) 16 := vp_in_nI (by omega) (by decide)
  have v' : vp_in (nI m') 16 := vp_in_nI (by omega) (by decide)
  rw [fw_2z i, fw_2z m', fw_21 i, fw_21 m', nI_clamp (n := i) (by omega), nI_clamp (n := m') (by omega), nI_clamp (n := 2 * i) (by omega), nI_clamp (n := 2 * m') (by omega), nI_clamp (n := 2 * i + 1) (by omega), nI_clamp (n := 2 * m' + 1) (by omega)]
  have e : (upd nx (2 * i) (nx (2 * m'))) (2 * m' + 1) = nx (2 * m' + 1) := pk_un (by omega)
  refine ⟨v', v, nm_e ⟨v', v, nm_e ⟨v', v, nm_e ⟨v', v, nm_e ⟨v', v, nm_e ⟨vp_in_nI (by omega) (by decide), vp_in_nI (by omega) (by decide), nm_e ⟨vp_in_nI (by omega) (by decide), vp_in_nI (by omega) (by decide), nm_e ?_⟩⟩⟩⟩⟩⟩⟩
  rw [e]
  exact H
theorem fx_tk {post : Int32 → SX → Prop} {x2 : Int32} {l0 : List fw_T}
    (H : ∀ (c : Nat) (pr' ad' po' st' ex' nx' : Nat → Int32), c ≤ 16 → (fw_L (fw_XT pr' ad' po' st' ex' nx') c).Perm (l0.filter (fw_q ck)) → post (x2 - nI c) (rc, cc, da, nI n, nI c, ck, r, pr', ad', po', st', ex', nx')) :
    ∀ (s c : Nat) (pr' ad' po' st' ex' nx' : Nat → Int32), c ≤ 16 → fw_TI (fw_q ck) l0 (fw_XT pr' ad' po' st' ex' nx') c s → ∀ f, s < f → wX_tick_32 post x2 f (nI s - 1) rc cc da (nI n) (nI c) ck r pr' ad' po' st' ex' nx' := by
  intro s
  induction s with
  | zero =>
    intro c pr' ad' po' st' ex' nx' hc h f hf
    obtain ⟨f, rfl⟩ : ∃ g, f = g + 1 := ⟨f - 1, by omega⟩
    exact br_t (by decide) (H c pr' ad' po' st' ex' nx' hc (fw_TI_e h))
  | succ s ih =>
    intro c pr' ad' po' st' ex' nx' hc h f hf
    obtain ⟨f, rfl⟩ : ∃ g, f = g + 1 := ⟨f - 1, by omega⟩
    have hs := h.1
    rw [nI_pred, wX_tick_32]
    dsimp only
    rw [nI_clamp (n := s) (by omega)]
    refine br_f (nI_pos (by omega)) ⟨vp_in_nI (by omega) (by decide), br_c (fun e => nm_r (fw_dec s) (ih c pr' ad' po' st' ex' nx' hc (fw_TI_k h (decide_eq_true e)) f (by omega))) (fun e => ?_)⟩
    obtain ⟨c', rfl⟩ : ∃ c', c = c' + 1 := ⟨c - 1, by omega⟩
    exact fx_rem (by omega) (by omega) (nm_r (fw_dec s) (ih c' _ _ _ _ _ _ (by omega) (fw_TI_d h (decide_eq_false e) (fun j _ hn => fw_XT_n hn) (fun _ => fw_XT_s)) f (by omega)))
end TX
section TY
variable {rc cc da ck fd : Int32} {rS rD rP rA cp cs ct cd cu cst cx cn0 cn1 : Nat → Int32} {n m : Nat}
theorem fy_copy {post : SY → Prop} {a b : Nat} (ha : a < 16) (hb : b < 16)
    (H : post (rc, cc, da, nI n, nI m, ck, fd, rS, rD, rP, rA, upd cp b (cp a), upd cs b (cs a), upd ct b (ct a), upd cd b (cd a), upd cu b (cu a), upd cst b (cst a), upd cx b (cx a), upd cn0 b (cn0 a), upd cn1 b (cn1 a))) : wpY_copyConn post (rc, cc, da, nI n, nI m, ck, fd, rS, rD, rP, rA, cp, cs, ct, cd, cu, cst, cx, cn0, cn1) (nI a) (nI b) := by
  unfold wpY_copyConn
  dsimp only
  have v : vp_in (nI a) 16 := vp_in_nI (by omega) (by decide)
  have v' : vp_in (nI b) 16 := vp_in_nI (by omega) (by decide)
  rw [nI_clamp (n := a) (by omega), nI_clamp (n := b) (by omega)]
  exact ⟨v, v', nm_e ⟨v, v', nm_e ⟨v, v', nm_e ⟨v, v', nm_e ⟨v, v', nm_e ⟨v, v', nm_e ⟨v, v', nm_e ⟨v, v', nm_e ⟨v, v', nm_e H⟩⟩⟩⟩⟩⟩⟩⟩⟩
theorem fy_rc {post : SY → Prop} {f0 : Nat → fw_U} {e m' : Nat} (hm : m' < 16)
    (H : ∀ (cp' cs' ct' cd' cu' cst' cx' cn0' cn1' : Nat → Int32), fw_SH f0 (fw_YT cp' cs' ct' cd' cu' cst' cx' cn0' cn1') e m' → post (rc, cc, da, nI n, nI m', ck, fd, rS, rD, rP, rA, cp', cs', ct', cd', cu', cst', cx', cn0', cn1')) :
    ∀ (d j : Nat) (cp' cs' ct' cd' cu' cst' cx' cn0' cn1' : Nat → Int32), j + d = m' → e ≤ j → fw_SH f0 (fw_YT cp' cs' ct' cd' cu' cst' cx' cn0' cn1') e j → ∀ f, d < f → wY_removeConn_2 post f (nI j) rc cc da (nI n) (nI (m' + 1)) ck fd rS rD rP rA cp' cs' ct' cd' cu' cst' cx' cn0' cn1' := by
  intro d
  induction d with
  | zero =>
    intro j cp' cs' ct' cd' cu' cst' cx' cn0' cn1' hj he h f hf
    obtain ⟨f, rfl⟩ : ∃ g, f = g + 1 := ⟨f - 1, by omega⟩
    have e : j = m' := by omega
    subst e
    rw [wY_removeConn_2]
    dsimp only
    rw [nI_pred]
    exact br_t (nI_le (by omega) (by omega)) (nm_e (H cp' cs' ct' cd' cu' cst' cx' cn0' cn1' h))
  | succ d ih =>
    intro j cp' cs' ct' cd' cu' cst' cx' cn0' cn1' hj he h f hf
    obtain ⟨f, rfl⟩ : ∃ g, f = g + 1 := ⟨f - 1, by omega⟩
    rw [wY_removeConn_2]
    dsimp only
    rw [nI_pred, nI_1 j]
    exact br_f (nI_ge (by omega) (by omega)) (fy_copy (by omega) (by omega) (nm_e (ih (j + 1) _ _ _ _ _ _ _ _ _ (by omega) (by omega) (fw_SH_s h he fw_YT_s (fun i hi => fw_YT_n hi)) f (by omega))))
theorem fy_tk {post : Int32 → SY → Prop} {f0 : Nat → fw_U} (hm : m ≤ 16)
    (H : ∀ (w : Nat) (cp' cs' ct' cd' cu' cst' cx' cn0' cn1' : Nat → Int32), fw_UP (fw_q ck ∘ fw_g) f0 (fw_YT cp' cs' ct' cd' cu' cst' cx' cn0' cn1') m w → post (nI (m - w)) (rc, cc, da, nI n, nI w, ck, fd, rS, rD, rP, rA, cp', cs', ct', cd', cu', cst', cx', cn0', cn1')) :
    ∀ (d i w : Nat) (cp' cs' ct' cd' cu' cst' cx' cn0' cn1' : Nat → Int32), i + d = m → fw_UP (fw_q ck ∘ fw_g) f0 (fw_YT cp' cs' ct' cd' cu' cst' cx' cn0' cn1') i w → ∀ f, d < f → wY_tick_30 post f (nI w) (nI (i - w)) (nI i) rc cc da (nI n) (nI m) ck fd rS rD rP rA cp' cs' ct' cd' cu' cst' cx' cn0' cn1' := by
  intro d
  induction d with
  | zero =>
    intro i w cp' cs' ct' cd' cu' cst' cx' cn0' cn1' hi h f hf
    obtain ⟨f, rfl⟩ : ∃ g, f = g + 1 := ⟨f - 1, by omega⟩
    have e : i = m := by omega
    subst e
    exact br_t (nI_le (by omega) (by omega)) (H w cp' cs' ct' cd' cu' cst' cx' cn0' cn1' h)
  | succ d ih =>
    intro i w cp' cs' ct' cd' cu' cst' cx' cn0' cn1' hi h f hf
    obtain ⟨f, rfl⟩ : ∃ g, f = g + 1 := ⟨f - 1, by omega⟩
    have hw := h.1
    have e1 : i + 1 - (w + 1) = i - w := by omega
    have e2 : nI (i - w) + 1 = nI (i + 1 - w) := by rw [nI_1, show i - w + 1 = i + 1 - w from by omega]
    rw [wY_tick_30]
    dsimp only
    rw [nI_clamp (n := i) (by omega)]
    refine br_f (nI_ge (by omega) (by omega)) ⟨vp_in_nI (by omega) (by decide), br_c (fun e => br_c (fun ew => ?_) (fun ew => fy_copy (by omega) (by omega) ?_)) (fun e => nm_r e2 (nm_r (nI_1 i) (ih (i + 1) w cp' cs' ct' cd' cu' cst' cx' cn0' cn1' (by omega) (fw_UP_f h (decide_eq_false e)) f (by omega))))⟩
    · have ew' : w = i := (nI_eq (by omega) (by omega)).mp ew
      have h2 := ih (i + 1) (w + 1) cp' cs' ct' cd' cu' cst' cx' cn0' cn1' (by omega) (fw_UP_t h (decide_eq_true e) (by rw [ew']) (fun _ _ => rfl)) f (by omega)
      rw [e1] at h2
      exact nm_r (nI_1 w) (nm_r (nI_1 i) h2)
    · have h2 := ih (i + 1) (w + 1) _ _ _ _ _ _ _ _ _ (by omega) (fw_UP_t h (decide_eq_true e) (fw_YT_s (pr := cp') (os := cs') (op := ct') (od := cd') (oq := cu') (st := cst') (ex := cx') (n0 := cn0') (n1 := cn1')) (fun j hj => fw_YT_n hj)) f (by omega)
      rw [e1] at h2
      exact nm_r (nI_1 w) (nm_r (nI_1 i) h2)
end TY
theorem i_vc_tick {k : Nat} {u : SX} {v : SY} (I : i_Rel k u v) (hk : k + 5 ≤ 2563) (v1 : Int32) : wpX_tick (fun r u' => wpY_tick (fun r' v' => r' = r ∧ i_Rel (k + 5) u' v') v v1) u v1 := by
  have I' := I
  obtain ⟨rc, cc, n, m, da, ck, fd, r, pr, ad, po, st, ex, nx, rS, rD, rP, rA, cp, cs, ct, cd, cu, cst, cx, cn0, cn1, rfl, rfl, hrc, hcc, hnr, hmc, R, E⟩ := I
  have hm : m ≤ 16 := by omega
  unfold wpX_tick wpY_tick
  dsimp only
  refine br_c (fun a => br_t a ⟨rfl, I'⟩) (fun a => br_c (fun b => nm_e (nm_e ⟨m + 1, fx_tk (l0 := fw_L (fw_XT pr ad po st ex nx) m) (fun c pr' ad' po' st' ex' nx' hc hx => ?_) m m pr ad po st ex nx hm fw_TI_0 (m + 1) (by omega)⟩)) (fun b => br_f a (br_f b ⟨rfl, I'⟩)))
  refine br_f a (br_t b (nm_e ⟨m + 1, fy_tk (f0 := fw_YT cp cs ct cd cu cst cx cn0 cn1) hm (fun w cp' cs' ct' cd' cu' cst' cx' cn0' cn1' hy => ?_) m 0 0 cp cs ct cd cu cst cx cn0 cn1 (by omega) fw_UP_0 (m + 1) (by omega)⟩))
  obtain ⟨E', l⟩ := fw_E_tick (fw_q (ck + v1)) E hx hy.2.1
  rw [fw_L_len, fw_L_len] at l
  subst l
  have hcm := hy.1
  refine ⟨?_, ?_⟩
  · rw [pk_sub hcm]
  · exact ⟨rc, cc, n, c, da, ck + v1, fd, r, pr', ad', po', st', ex', nx', rS, rD, rP, rA, cp', cs', ct', cd', cu', cst', cx', cn0', cn1', rfl, rfl, hrc, hcc, hnr, by omega, R, E'⟩
end
section
theorem fx_timeout {post : Int32 → Prop} {p : Int32} (H : post (fw_to p)) : wpX_timeout post p := by
  have A : (∀ z : Int32, z = 1 ∨ z = 2 ∨ z = 3 ∨ z = 4 ∨ z = 5 ∨ z = 6 ∨ z = 7 ∨ z = 8 → p ≠ z) → fw_to p = 30 := by
    intro h
    unfold fw_to
    rw [if_neg (h 1 (by decide)), if_neg (h 2 (by decide)), if_neg (h 3 (by decide)), if_neg (h 4 (by decide)), if_neg (h 5 (by decide)), if_neg (h 6 (by decide)), if_neg (h 7 (by decide)), if_neg (h 8 (by decide))]
  refine br_c (fun a => ?_) (fun a => br_c (fun b => ?_) (fun b => br_c (fun e => ?_) (fun _ => br_c (fun e => ?_) (fun _ => br_c (fun e => ?_) (fun _ => br_c (fun e => ?_) (fun _ => br_c (fun e => ?_) (fun _ => br_c (fun e => ?_) (fun _ => br_c (fun e => ?_) (fun _ => br_c (fun e => ?_) (fun _ => trivial))))))))))
  · rw [A (by rintro z (rfl | rfl | rfl | rfl | rfl | rfl | rfl | rfl) rfl <;> exact absurd a (by decide))] at H; exact H
  · rw [A (by rintro z (rfl | rfl | rfl | rfl | rfl | rfl | rfl | rfl) rfl <;> exact absurd b (by decide))] at H; exact H
  · subst e; exact H
  · subst e; exact H
  · subst e; exact H
  · subst e; exact H
  · subst e; exact H
  · subst e; exact H
  · subst e; exact H
  · subst e; exact H
theorem fx_inWindow {post : Int32 → Prop} {s x : Int32} (H : post (fw_b (fw_iw s x))) : wpX_inWindow post s x := by
  refine br_c (fun a => ?_) (fun a => ?_)
  · rw [show fw_iw s x = false from decide_eq_false (Int32.not_lt.mpr a)] at H; exact H
  · rw [show fw_iw s x = true from decide_eq_true (Int32.not_le.mp a)] at H; exact H
theorem fx_retransmits {post : Int32 → Prop} {s x : Int32} (H : post (fw_b (fw_rt s x))) : wpX_retransmits post s x := by
  refine br_c (fun a => ?_) (fun a => ?_)
  · rw [show fw_rt s x = true from decide_eq_true a] at H; exact H
  · rw [show fw_rt s x = false from decide_eq_false a] at H; exact H
theorem fx_stateAfterFin {post : Int32 → Prop} {st d : Int32} (H : post (fw_fin st d)) : wpX_stateAfterFin post st d := by
  unfold fw_fin at H
  refine br_c (fun a => br_t a (br_c (fun b => ?_) (fun b => br_c (fun c => ?_) (fun c => ?_)))) (fun a => br_f a (br_c (fun b => ?_) (fun b => br_c (fun c => ?_) (fun c => ?_))))
  · rw [if_pos b, if_pos a] at H; exact H
  · rw [if_neg b, if_pos a, if_pos c] at H; exact H
  · rw [if_neg b, if_pos a, if_neg c] at H; exact H
  · rw [if_pos b, if_neg a] at H; exact H
  · rw [if_neg b, if_neg a, if_pos c] at H; exact H
  · rw [if_neg b, if_neg a, if_neg c] at H; exact H
theorem fx_stateAfter {post : Int32 → Prop} {st d fl s x : Int32} (H : post (fw_sa st d fl s x)) : wpX_stateAfter post st d fl s x := by
  unfold fw_sa at H
  refine br_c (fun a => ?_) (fun a => br_c (fun b => ?_) (fun b => fx_inWindow (fw_br (fun c => ?_) (fun c => br_c (fun e => br_c (fun g => ?_) (fun g => ?_)) (fun e => br_c (fun g => fx_stateAfterFin ?_) (fun g => ?_))))))
  · rw [if_pos a] at H
    refine br_c (fun b => br_c (fun c => fx_retransmits (fw_br (fun e => ?_) (fun e => ?_))) (fun c => ?_)) (fun b => br_c (fun c => ?_) (fun c => ?_))
    · rw [if_pos b, if_neg (fun z => absurd (z.2.symm.trans e) (by decide))] at H; exact H
    · rw [if_pos b, if_pos ⟨c, e⟩] at H; exact H
    · rw [if_pos b, if_neg (fun z => c z.1)] at H; exact H
    · rw [if_neg b, if_pos c] at H; exact H
    · rw [if_neg b, if_neg c] at H; exact H
  · rw [if_neg a, if_pos b] at H
    refine br_c (fun b => br_c (fun c => fx_inWindow (fw_br (fun e => ?_) (fun e => ?_))) (fun c => ?_)) (fun b => br_c (fun c => fx_retransmits (fw_br (fun e => ?_) (fun e => ?_))) (fun c => ?_))
    · rw [if_pos b, if_neg (fun z => absurd (z.2.symm.trans e) (by decide))] at H; exact H
    · rw [if_pos b, if_pos ⟨c, e⟩] at H; exact H
    · rw [if_pos b, if_neg (fun z => c z.1)] at H; exact H
    · rw [if_neg b, if_neg (fun z => absurd (z.2.symm.trans e) (by decide))] at H; exact H
    · rw [if_neg b, if_pos ⟨c, e⟩] at H; exact H
    · rw [if_neg b, if_neg (fun z => c z.1)] at H; exact H
  · rw [if_neg a, if_neg b, if_neg (by rw [c]; decide)] at H; exact H
  · rw [if_neg a, if_neg b, if_pos c, if_pos e, if_pos g] at H; exact H
  · rw [if_neg a, if_neg b, if_pos c, if_pos e, if_neg g] at H; exact H
  · rw [if_neg a, if_neg b, if_pos c, if_neg e, if_pos g] at H; exact H
  · rw [if_neg a, if_neg b, if_pos c, if_neg e, if_neg g] at H; exact H
section PX
variable {rc cc da ck : Int32} {r pr ad po st ex nx : Nat → Int32} {n m : Nat}
theorem fx_enter {post : SX → Prop} {i : Nat} {s : Int32} (hi : i < 16) (H : post (rc, cc, da, nI n, nI m, ck, r, pr, ad, po, upd st i s, upd ex i (ck + fw_to s), nx)) : wpX_enterState post (rc, cc, da, nI n, nI m, ck, r, pr, ad, po, st, ex, nx) (nI i) s := by
  unfold wpX_enterState
  dsimp only
  have v : vp_in (nI i) 16 := vp_in_nI (by omega) (by decide)
  rw [nI_clamp (n := i) (by omega)]
  exact ⟨v, nm_e (fx_timeout ⟨v, nm_e H⟩)⟩
theorem fx_create {post : SX → Prop} {a q p s z t : Int32} (hm : m < 16) (hp : (p = 0 ∧ z = ((s + 1) &&& 255) ∧ t = 1) ∨ (¬ p = 0 ∧ z = -1 ∧ t = 8))
    (H : post (rc, cc, da, nI n, nI (m + 1), ck, r, upd pr m p, upd ad m a, upd po m q, upd st m t, upd ex m (ck + fw_to t), upd (upd nx (2 * m) z) (2 * m + 1) (-1))) : wpX_createEntry post (rc, cc, da, nI n, nI m, ck, r, pr, ad, po, st, ex, nx) a q p s := by
  unfold wpX_createEntry
  dsimp only
  have v : vp_in (nI m) 16 := vp_in_nI (by omega) (by decide)
  have w : vp_in (nI (2 * m)) 32 := vp_in_nI (by omega) (by decide)
  have w' : vp_in (nI (2 * m + 1)) 32 := vp_in_nI (by omega) (by decide)
  rw [nI_clamp (n := m) (by omega), fw_2z]
  refine nm_r (nI_1 m) ⟨v, nm_e ⟨v, nm_e ⟨v, nm_e ?_⟩⟩⟩
  rcases hp with ⟨h1, h2, h3⟩ | ⟨h1, h2, h3⟩
  · subst h2 h3
    refine br_t h1 ?_
    unfold wpX_seqAfter wX_createEntry_61
    rw [fw_21, nI_clamp (n := 2 * m) (by omega), nI_clamp (n := 2 * m + 1) (by omega)]
    exact ⟨w, nm_e ⟨w', nm_e (br_t h1 (fx_enter hm H))⟩⟩
  · subst h2 h3
    refine br_f h1 ?_
    unfold wX_createEntry_61
    rw [fw_21, nI_clamp (n := 2 * m) (by omega), nI_clamp (n := 2 * m + 1) (by omega)]
    exact ⟨w, nm_e ⟨w', nm_e (br_f h1 (fx_enter hm H))⟩⟩
theorem fx_udp {post : Int32 → SX → Prop} {i d : Nat} {t : Int32} (hi : i < 16) (hd : d < 2) (ht : (d = 1 ∧ t = 9) ∨ (d = 0 ∧ t = st i))
    (H : post 2 (rc, cc, da, nI n, nI m, ck, r, pr, ad, po, upd st i t, upd ex i (ck + fw_to t), nx)) : wpX_packetOfUdpEntry post (rc, cc, da, nI n, nI m, ck, r, pr, ad, po, st, ex, nx) (nI (2 * i + d)) := by
  unfold wpX_packetOfUdpEntry
  dsimp only
  rw [fw_h1 hi hd, fw_h2 hi hd]
  refine ⟨by decide, nm_e ⟨by decide, ?_⟩⟩
  rw [nI_clamp (n := i) (by omega)]
  rcases ht with ⟨h1, h2⟩ | ⟨h1, h2⟩
  · subst h1 h2
    exact br_t rfl (fx_enter hi H)
  · subst h1 h2
    exact br_f (by decide) ⟨vp_in_nI (by omega) (by decide), fx_enter hi H⟩
theorem fx_tcp {post : Int32 → SX → Prop} {i d : Nat} {fl s : Int32} (hi : i < 16) (hd : d < 2)
    (h0 : fw_sa (st i) (nI d) fl s (nx (2 * i + d)) = 0 → post 3 (rc, cc, da, nI n, nI m, ck, r, pr, ad, po, st, ex, nx))
    (h1 : ¬ fw_sa (st i) (nI d) fl s (nx (2 * i + d)) = 0 → post 2 (rc, cc, da, nI n, nI m, ck, r, pr, ad, po, upd st i (fw_sa (st i) (nI d) fl s (nx (2 * i + d))), upd ex i (ck + fw_to (fw_sa (st i) (nI d) fl s (nx (2 * i + d)))), upd nx (2 * i + d) ((s + 1) &&& 255))) :
    wpX_packetOfTcpEntry post (rc, cc, da, nI n, nI m, ck, r, pr, ad, po, st, ex, nx) (nI (2 * i + d)) fl s := by
  unfold wpX_packetOfTcpEntry
  dsimp only
  rw [fw_h1 hi hd, fw_h2 hi hd]
  have v : vp_in (nI i) 16 := vp_in_nI (by omega) (by decide)
  have w : vp_in (nI (2 * i + d)) 32 := vp_in_nI (by omega) (by decide)
  refine ⟨by decide, nm_e ⟨v, by decide, w, ?_⟩⟩
  rw [nI_clamp (n := i) (by omega), nI_clamp (n := 2 * i + d) (by omega)]
  exact fx_stateAfter (br_c (fun e => h0 e) (fun e => ⟨w, nm_e (fx_enter hi (h1 e))⟩))
theorem fx_rst {post : Int32 → SX → Prop} {i d m' : Nat} {s : Int32} (hm : m' < 16) (hi : i ≤ m') (hd : d < 2)
    (h0 : ¬ ((st i = 1 ∧ d = 1) ∨ fw_iw s (nx (2 * i + d)) = true) → post 3 (rc, cc, da, nI n, nI (m' + 1), ck, r, pr, ad, po, st, ex, nx))
    (h1 : ((st i = 1 ∧ d = 1) ∨ fw_iw s (nx (2 * i + d)) = true) → post 5 (rc, cc, da, nI n, nI m', ck, r, upd pr i (pr m'), upd ad i (ad m'), upd po i (po m'), upd st i (st m'), upd ex i (ex m'), upd (upd nx (2 * i) (nx (2 * m'))) (2 * i + 1) (nx (2 * m' + 1)))) :
    wpX_resetOfTcpEntry post (rc, cc, da, nI n, nI (m' + 1), ck, r, pr, ad, po, st, ex, nx) (nI (2 * i + d)) s := by
  have v : vp_in (nI i) 16 := vp_in_nI (by omega) (by decide)
  have w : vp_in (nI (2 * i + d)) 32 := vp_in_nI (by omega) (by decide)
  have B : ¬ (st i = 1 ∧ d = 1) → wX_resetOfTcpEntry_26 post (nI (2 * i + d)) s (nI i) 0 rc cc da (nI n) (nI (m' + 1)) ck r pr ad po st ex nx := by
    intro c
    unfold wX_resetOfTcpEntry_26
    rw [nI_clamp (n := 2 * i + d) (by omega)]
    refine br_t rfl ⟨w, fx_inWindow (fw_br (fun b => h0 ?_) (fun b => fx_rem hm hi (h1 (Or.inr b))))⟩
    rintro (z | z)
    · exact c z
    · exact absurd (z.symm.trans b) (by decide)
  unfold wpX_resetOfTcpEntry
  dsimp only
  rw [fw_h1 (by omega) hd, fw_h2 (by omega) hd]
  refine ⟨by decide, nm_e ⟨v, ?_⟩⟩
  rw [nI_clamp (n := i) (by omega)]
  refine br_c (fun a => ⟨by decide, br_c (fun b => ?_) (fun b => B ?_)⟩) (fun a => B (fun z => a z.1))
  · have e : d = 1 := (nI_eq (b := 1) (by omega) (by decide)).mp b
    exact br_f (by decide) (fx_rem hm hi (h1 (Or.inl ⟨a, e⟩)))
  · intro z
    exact b (by rw [z.2]; rfl)
theorem fx_pk0 {post : Int32 → SX → Prop} {p0 p1 p2 p3 : Int32} (hG : ¬ (fw_in p0 255 = true ∧ fw_in p1 255 = true ∧ fw_in p2 31 = true ∧ fw_in p3 255 = true ∧ ¬ ((p2 &&& 1) = 1 ∧ ¬ (p2 >>> ((1 : Int32) &&& 31)) = 0)))
    (H : post (-1) (rc, cc, da, nI n, nI m, ck, r, pr, ad, po, st, ex, nx)) : wpX_packet post (rc, cc, da, nI n, nI m, ck, r, pr, ad, po, st, ex, nx) p0 p1 p2 p3 := by
  unfold wpX_packet
  dsimp only
  refine fx_inRange (fw_br (fun _ => H) (fun h2 => fx_inRange (fw_br (fun _ => H) (fun h3 => ?_))))
  have r2 : fw_r 32 p2 := (fw_in_r 31 (by decide)).mp h2
  rw [fw_md2 r2 (by decide), fw_dv2 r2 (by decide)]
  refine ⟨by decide, nm_e ⟨by decide, nm_e (fx_validHeader (fw_br (fun _ => H) (fun h => ?_)))⟩⟩
  unfold fw_hd at h
  rw [Bool.and_eq_true, Bool.and_eq_true] at h
  exact br_c (fun e => br_c (fun z => absurd ⟨h.1, h.2.1, h2, h3, fun c => c.2 z⟩ hG) (fun _ => H)) (fun e => absurd ⟨h.1, h.2.1, h2, h3, fun c => e c.1⟩ hG)
theorem fx_pk1 {post : Int32 → SX → Prop} {a q w s : Nat} (ha : a < 256) (hq : q < 256) (hw : w < 32) (hs : s < 256) (hG : ¬ (w % 2 = 1 ∧ ¬ w / 2 = 0))
    (H : wX_packet_57 post (nI a) (nI q) (nI s) (nI (w % 2)) (nI (w / 2)) rc cc da (nI n) (nI m) ck r pr ad po st ex nx) : wpX_packet post (rc, cc, da, nI n, nI m, ck, r, pr, ad, po, st, ex, nx) (nI a) (nI q) (nI w) (nI s) := by
  unfold wpX_packet
  dsimp only
  have e1 : nI w - nI w / 2 * 2 = nI (w % 2) := pk_rem (d := 2) (by omega) (by decide) (by decide)
  have e2 : nI w / 2 = nI (w / 2) := pk_div (d := 2) (by omega) (by decide) (by decide)
  rw [e1, e2]
  refine fx_inRange (fw_bt ((fw_in_r 31 (by decide)).mpr ⟨w, hw, rfl⟩) (fx_inRange (fw_bt ((fw_in_r 255 (by decide)).mpr ⟨s, hs, rfl⟩) ⟨by decide, nm_e ⟨by decide, nm_e (fx_validHeader (fw_bt ?_ ?_))⟩⟩)))
  · unfold fw_hd
    have i1 : fw_in (nI a) 255 = true := (fw_in_r 255 (by decide)).mpr ⟨a, ha, rfl⟩
    have i2 : fw_in (nI q) 255 = true := (fw_in_r 255 (by decide)).mpr ⟨q, hq, rfl⟩
    have i3 : fw_in (nI (w % 2)) 1 = true := (fw_in_r 1 (by decide)).mpr ⟨w % 2, by omega, rfl⟩
    rw [i1, i2, i3]
    rfl
  · refine br_c (fun e => br_c (fun _ => H) (fun z => ?_)) (fun _ => H)
    refine absurd ⟨(nI_eq (b := 1) (by omega) (by decide)).mp e, fun c => z ?_⟩ hG
    rw [c]; rfl
end PX
end
section
section PY
variable {rc cc da ck fd : Int32} {rS rD rP rA pr ad po st ex nx cp cs ct cd cu cst cx cn0 cn1 : Nat → Int32} {n m : Nat}
theorem fy_timeout {post : Int32 → Prop} {p : Int32} (H : post (fw_to p)) : wpY_timeout post (rc, cc, da, nI n, nI m, ck, fd, rS, rD, rP, rA, cp, cs, ct, cd, cu, cst, cx, cn0, cn1) p := by
  unfold wpY_timeout
  dsimp only
  unfold fw_to at H
  refine br_c (fun e => ?_) (fun h1 => br_c (fun e => ?_) (fun h2 => br_c (fun e => ?_) (fun h3 => br_c (fun e => ?_) (fun h4 => br_c (fun e => ?_) (fun h5 => br_c (fun e => ?_) (fun h6 => br_c (fun e => ?_) (fun h7 => br_c (fun e => ?_) (fun h8 => ?_))))))))
  · rw [if_pos e] at H; exact H
  · rw [if_neg h1, if_pos e] at H; exact H
  · rw [if_neg h1, if_neg h2, if_pos e] at H; exact H
  · rw [if_neg h1, if_neg h2, if_neg h3, if_pos e] at H; exact H
  · rw [if_neg h1, if_neg h2, if_neg h3, if_neg h4, if_pos e] at H; exact H
  · rw [if_neg h1, if_neg h2, if_neg h3, if_neg h4, if_neg h5, if_pos e] at H; exact H
  · rw [if_neg h1, if_neg h2, if_neg h3, if_neg h4, if_neg h5, if_neg h6, if_pos e] at H; exact H
  · rw [if_neg h1, if_neg h2, if_neg h3, if_neg h4, if_neg h5, if_neg h6, if_neg h7, if_pos e] at H; exact H
  · rw [if_neg h1, if_neg h2, if_neg h3, if_neg h4, if_neg h5, if_neg h6, if_neg h7, if_neg h8] at H; exact H
theorem fy_iw {post : Int32 → Prop} {s x : Int32} (H : post (fw_b (fw_iw s x))) : wY_inWin_19 post s x rc cc da (nI n) (nI m) ck fd rS rD rP rA cp cs ct cd cu cst cx cn0 cn1 := by
  refine br_c (fun a => ?_) (fun a => ?_)
  · rw [show fw_iw s x = false from decide_eq_false (Int32.not_lt.mpr a)] at H; exact H
  · rw [show fw_iw s x = true from decide_eq_true (Int32.not_le.mp a)] at H; exact H
theorem fy_rt {post : Int32 → Prop} {s x : Int32} (H : post (fw_b (fw_rt s x))) : wY_retrans_19 post s x rc cc da (nI n) (nI m) ck fd rS rD rP rA cp cs ct cd cu cst cx cn0 cn1 := by
  refine br_c (fun a => ?_) (fun a => ?_)
  · rw [show fw_rt s x = true from decide_eq_true a] at H; exact H
  · rw [show fw_rt s x = false from decide_eq_false a] at H; exact H
theorem fy_iw0 {post : Int32 → Prop} {j : Nat} {s : Int32} (hj : j < 16) (H : post (fw_b (fw_iw s (cn0 j)))) : wpY_inWin post (rc, cc, da, nI n, nI m, ck, fd, rS, rD, rP, rA, cp, cs, ct, cd, cu, cst, cx, cn0, cn1) (nI j) 0 s := by
  unfold wpY_inWin
  dsimp only
  rw [nI_clamp (n := j) (by omega)]
  exact br_t rfl ⟨vp_in_nI hj (by decide), fy_iw H⟩
theorem fy_iw1 {post : Int32 → Prop} {j : Nat} {s : Int32} (hj : j < 16) (H : post (fw_b (fw_iw s (cn1 j)))) : wpY_inWin post (rc, cc, da, nI n, nI m, ck, fd, rS, rD, rP, rA, cp, cs, ct, cd, cu, cst, cx, cn0, cn1) (nI j) 1 s := by
  unfold wpY_inWin
  dsimp only
  rw [nI_clamp (n := j) (by omega)]
  exact br_f (by decide) ⟨vp_in_nI hj (by decide), fy_iw H⟩
theorem fy_rt0 {post : Int32 → Prop} {j : Nat} {s : Int32} (hj : j < 16) (H : post (fw_b (fw_rt s (cn0 j)))) : wpY_retrans post (rc, cc, da, nI n, nI m, ck, fd, rS, rD, rP, rA, cp, cs, ct, cd, cu, cst, cx, cn0, cn1) (nI j) 0 s := by
  unfold wpY_retrans
  dsimp only
  rw [nI_clamp (n := j) (by omega)]
  exact br_t rfl ⟨vp_in_nI hj (by decide), fy_rt H⟩
theorem fy_rt1 {post : Int32 → Prop} {j : Nat} {s : Int32} (hj : j < 16) (H : post (fw_b (fw_rt s (cn1 j)))) : wpY_retrans post (rc, cc, da, nI n, nI m, ck, fd, rS, rD, rP, rA, cp, cs, ct, cd, cu, cst, cx, cn0, cn1) (nI j) 1 s := by
  unfold wpY_retrans
  dsimp only
  rw [nI_clamp (n := j) (by omega)]
  exact br_f (by decide) ⟨vp_in_nI hj (by decide), fy_rt H⟩
theorem fy_681 {post : Int32 → SY → Prop} {x4 x5 x7 x8 x9 x10 z0 y0 : Int32} (hm : m < 16) (hp : (x5 = 0 ∧ y0 = ((x4 + 1) &&& 255)) ∨ (¬ x5 = 0 ∧ y0 = 0))
    (H : post 1 (rc, cc, da, nI n, nI (m + 1), ck, fd, rS, rD, rP, rA, upd cp m x5, upd cs m x7, upd ct m x9, upd cd m x8, upd cu m x10, upd cst m z0, upd cx m (ck + fw_to z0), upd cn0 m y0, upd cn1 m (-1))) :
    wY_packet_681 post x4 x5 x7 x8 x9 x10 z0 rc cc da (nI n) (nI m) ck fd rS rD rP rA cp cs ct cd cu cst cx cn0 cn1 := by
  have v : vp_in (nI m) 16 := vp_in_nI (by omega) (by decide)
  unfold wY_packet_681
  rw [nI_clamp (n := m) (by omega)]
  refine ⟨v, nm_e ⟨v, nm_e ⟨v, nm_e ⟨v, nm_e ⟨v, nm_e ⟨v, nm_e (fy_timeout ⟨v, nm_e ?_⟩)⟩⟩⟩⟩⟩⟩
  rcases hp with ⟨h1, h2⟩ | ⟨h1, h2⟩
  · subst h2
    refine br_t h1 ?_
    unfold wY_packet_794
    rw [nI_clamp (n := m) (by omega)]
    exact ⟨v, nm_e ⟨v, nm_e (nm_r (nI_1 m) H)⟩⟩
  · subst h2
    refine br_f h1 ?_
    unfold wY_packet_794
    rw [nI_clamp (n := m) (by omega)]
    exact ⟨v, nm_e ⟨v, nm_e (nm_r (nI_1 m) H)⟩⟩
theorem fy_597 {post : Int32 → SY → Prop} {j : Nat} {t : Int32} (hj : j < 16) (H : post 2 (rc, cc, da, nI n, nI m, ck, fd, rS, rD, rP, rA, cp, cs, ct, cd, cu, upd cst j t, upd cx j (ck + fw_to t), cn0, cn1)) : wY_packet_597 post (nI j) t rc cc da (nI n) (nI m) ck fd rS rD rP rA cp cs ct cd cu cst cx cn0 cn1 := by
  have v : vp_in (nI j) 16 := vp_in_nI (by omega) (by decide)
  unfold wY_packet_597
  rw [nI_clamp (n := j) (by omega)]
  exact ⟨v, nm_e (fy_timeout ⟨v, nm_e H⟩)⟩
theorem fy_149 {post : Int32 → SY → Prop} {j : Nat} {t : Int32} (hj : j < 16) (H : post 2 (rc, cc, da, nI n, nI m, ck, fd, rS, rD, rP, rA, cp, cs, ct, cd, cu, upd cst j t, upd cx j (ck + fw_to t), cn0, cn1)) : wY_packet_149 post (nI j) t rc cc da (nI n) (nI m) ck fd rS rD rP rA cp cs ct cd cu cst cx cn0 cn1 := by
  have v : vp_in (nI j) 16 := vp_in_nI (by omega) (by decide)
  unfold wY_packet_149
  rw [nI_clamp (n := j) (by omega)]
  exact ⟨v, nm_e (fy_timeout ⟨v, nm_e H⟩)⟩
theorem fy_s10 {post : Int32 → SY → Prop} {j : Nat} {S FL x15 z0 : Int32} (hj : j < 16) (hx : (FL = 2 ∧ x15 = 1 ∧ z0 = 0) ∨ (FL = 6 ∧ x15 = 0 ∧ z0 = 1) ∨ (¬ FL = 2 ∧ ¬ FL = 6 ∧ x15 = 0 ∧ z0 = 0))
    (Z0 : fw_sa 1 0 FL S (cn0 j) = 0 → wY_packet_552 post S (nI j) 0 (-1) rc cc da (nI n) (nI m) ck fd rS rD rP rA cp cs ct cd cu cst cx cn0 cn1) (Z1 : ∀ x, fw_sa 1 0 FL S (cn0 j) = x → ¬ x = 0 → wY_packet_552 post S (nI j) 0 x rc cc da (nI n) (nI m) ck fd rS rD rP rA cp cs ct cd cu cst cx cn0 cn1) :
    wY_packet_251 post S FL (nI j) 0 1 (-1) x15 z0 rc cc da (nI n) (nI m) ck fd rS rD rP rA cp cs ct cd cu cst cx cn0 cn1 := by
  exact br_t rfl (br_t rfl (br_c (fun f => fy_rt0 hj (fw_br (fun b => br_f (by decide) (Z0 (by simp [fw_sa, fw_fin, f, b]))) (fun b => Z1 1 (by simp [fw_sa, fw_fin, f, b]) (by decide)))) (fun f => br_f (by decide) (Z0 (by simp [fw_sa, fw_fin, f])))))
theorem fy_s11 {post : Int32 → SY → Prop} {j : Nat} {S FL x15 z0 : Int32} (hj : j < 16) (hx : (FL = 2 ∧ x15 = 1 ∧ z0 = 0) ∨ (FL = 6 ∧ x15 = 0 ∧ z0 = 1) ∨ (¬ FL = 2 ∧ ¬ FL = 6 ∧ x15 = 0 ∧ z0 = 0))
    (Z0 : fw_sa 1 1 FL S (cn1 j) = 0 → wY_packet_552 post S (nI j) 1 (-1) rc cc da (nI n) (nI m) ck fd rS rD rP rA cp cs ct cd cu cst cx cn0 cn1) (Z1 : ∀ x, fw_sa 1 1 FL S (cn1 j) = x → ¬ x = 0 → wY_packet_552 post S (nI j) 1 x rc cc da (nI n) (nI m) ck fd rS rD rP rA cp cs ct cd cu cst cx cn0 cn1) :
    wY_packet_251 post S FL (nI j) 1 1 (-1) x15 z0 rc cc da (nI n) (nI m) ck fd rS rD rP rA cp cs ct cd cu cst cx cn0 cn1 := by
  exact br_t rfl (br_f (by decide) (br_t rfl (br_c (fun f => Z1 2 (by simp [fw_sa, fw_fin, f]) (by decide)) (fun f => Z0 (by simp [fw_sa, fw_fin, f])))))
theorem fy_s20 {post : Int32 → SY → Prop} {j : Nat} {S FL x15 z0 : Int32} (hj : j < 16) (hx : (FL = 2 ∧ x15 = 1 ∧ z0 = 0) ∨ (FL = 6 ∧ x15 = 0 ∧ z0 = 1) ∨ (¬ FL = 2 ∧ ¬ FL = 6 ∧ x15 = 0 ∧ z0 = 0))
    (Z0 : fw_sa 2 0 FL S (cn0 j) = 0 → wY_packet_552 post S (nI j) 0 (-1) rc cc da (nI n) (nI m) ck fd rS rD rP rA cp cs ct cd cu cst cx cn0 cn1) (Z1 : ∀ x, fw_sa 2 0 FL S (cn0 j) = x → ¬ x = 0 → wY_packet_552 post S (nI j) 0 x rc cc da (nI n) (nI m) ck fd rS rD rP rA cp cs ct cd cu cst cx cn0 cn1) :
    wY_packet_251 post S FL (nI j) 0 2 (-1) x15 z0 rc cc da (nI n) (nI m) ck fd rS rD rP rA cp cs ct cd cu cst cx cn0 cn1 := by
  rcases hx with ⟨f, h1, h2⟩ | ⟨f, h1, h2⟩ | ⟨f, f', h1, h2⟩
  · subst h1 h2
    exact br_f (by decide) (br_t rfl (br_f (by decide) (br_t rfl (br_f (by decide) (fy_iw0 hj (fw_br (fun b => Z0 (by simp [fw_sa, fw_fin, f, b])) (fun b => Z1 3 (by simp [fw_sa, fw_fin, f, b]) (by decide))))))))
  · subst h1 h2
    exact br_f (by decide) (br_t rfl (br_f (by decide) (br_t rfl (br_t rfl (Z0 (by simp [fw_sa, fw_fin, f]))))))
  · subst h1 h2
    exact br_f (by decide) (br_t rfl (br_f (by decide) (br_t rfl (br_t rfl (Z0 (by simp [fw_sa, fw_fin, f]))))))
theorem fy_s21 {post : Int32 → SY → Prop} {j : Nat} {S FL x15 z0 : Int32} (hj : j < 16) (hx : (FL = 2 ∧ x15 = 1 ∧ z0 = 0) ∨ (FL = 6 ∧ x15 = 0 ∧ z0 = 1) ∨ (¬ FL = 2 ∧ ¬ FL = 6 ∧ x15 = 0 ∧ z0 = 0))
    (Z0 : fw_sa 2 1 FL S (cn1 j) = 0 → wY_packet_552 post S (nI j) 1 (-1) rc cc da (nI n) (nI m) ck fd rS rD rP rA cp cs ct cd cu cst cx cn0 cn1) (Z1 : ∀ x, fw_sa 2 1 FL S (cn1 j) = x → ¬ x = 0 → wY_packet_552 post S (nI j) 1 x rc cc da (nI n) (nI m) ck fd rS rD rP rA cp cs ct cd cu cst cx cn0 cn1) :
    wY_packet_251 post S FL (nI j) 1 2 (-1) x15 z0 rc cc da (nI n) (nI m) ck fd rS rD rP rA cp cs ct cd cu cst cx cn0 cn1 := by
  exact br_f (by decide) (br_t rfl (br_t rfl (br_c (fun f => fy_rt1 hj (fw_br (fun b => br_f (by decide) (Z0 (by simp [fw_sa, fw_fin, f, b]))) (fun b => Z1 2 (by simp [fw_sa, fw_fin, f, b]) (by decide)))) (fun f => br_f (by decide) (Z0 (by simp [fw_sa, fw_fin, f]))))))
theorem fy_s30 {post : Int32 → SY → Prop} {j : Nat} {S FL x15 z0 : Int32} (hj : j < 16) (hx : (FL = 2 ∧ x15 = 1 ∧ z0 = 0) ∨ (FL = 6 ∧ x15 = 0 ∧ z0 = 1) ∨ (¬ FL = 2 ∧ ¬ FL = 6 ∧ x15 = 0 ∧ z0 = 0))
    (Z0 : fw_sa 3 0 FL S (cn0 j) = 0 → wY_packet_552 post S (nI j) 0 (-1) rc cc da (nI n) (nI m) ck fd rS rD rP rA cp cs ct cd cu cst cx cn0 cn1) (Z1 : ∀ x, fw_sa 3 0 FL S (cn0 j) = x → ¬ x = 0 → wY_packet_552 post S (nI j) 0 x rc cc da (nI n) (nI m) ck fd rS rD rP rA cp cs ct cd cu cst cx cn0 cn1) :
    wY_packet_251 post S FL (nI j) 0 3 (-1) x15 z0 rc cc da (nI n) (nI m) ck fd rS rD rP rA cp cs ct cd cu cst cx cn0 cn1 := by
  refine br_f (by decide) (br_f (by decide) (fy_iw0 hj (fw_br (fun b => Z0 (by simp [fw_sa, fw_fin, b])) (fun b => ?_))))
  rcases hx with ⟨f, h1, h2⟩ | ⟨f, h1, h2⟩ | ⟨f, f', h1, h2⟩
  · subst h1 h2
    exact br_t rfl (br_f (by decide) (Z1 3 (by simp [fw_sa, fw_fin, f, b]) (by decide)))
  · subst h1 h2
    exact br_t rfl (br_t rfl (br_f (by decide) (br_t rfl (Z1 4 (by simp [fw_sa, fw_fin, f, b]) (by decide)))))
  · subst h1 h2
    exact br_t rfl (br_t rfl (br_t rfl (Z0 (by simp [fw_sa, fw_fin, f, f', b]))))
theorem fy_s31 {post : Int32 → SY → Prop} {j : Nat} {S FL x15 z0 : Int32} (hj : j < 16) (hx : (FL = 2 ∧ x15 = 1 ∧ z0 = 0) ∨ (FL = 6 ∧ x15 = 0 ∧ z0 = 1) ∨ (¬ FL = 2 ∧ ¬ FL = 6 ∧ x15 = 0 ∧ z0 = 0))
    (Z0 : fw_sa 3 1 FL S (cn1 j) = 0 → wY_packet_552 post S (nI j) 1 (-1) rc cc da (nI n) (nI m) ck fd rS rD rP rA cp cs ct cd cu cst cx cn0 cn1) (Z1 : ∀ x, fw_sa 3 1 FL S (cn1 j) = x → ¬ x = 0 → wY_packet_552 post S (nI j) 1 x rc cc da (nI n) (nI m) ck fd rS rD rP rA cp cs ct cd cu cst cx cn0 cn1) :
    wY_packet_251 post S FL (nI j) 1 3 (-1) x15 z0 rc cc da (nI n) (nI m) ck fd rS rD rP rA cp cs ct cd cu cst cx cn0 cn1 := by
  refine br_f (by decide) (br_f (by decide) (fy_iw1 hj (fw_br (fun b => Z0 (by simp [fw_sa, fw_fin, b])) (fun b => ?_))))
  rcases hx with ⟨f, h1, h2⟩ | ⟨f, h1, h2⟩ | ⟨f, f', h1, h2⟩
  · subst h1 h2
    exact br_t rfl (br_f (by decide) (Z1 3 (by simp [fw_sa, fw_fin, f, b]) (by decide)))
  · subst h1 h2
    exact br_t rfl (br_t rfl (br_f (by decide) (br_f (by decide) (Z1 5 (by simp [fw_sa, fw_fin, f, b]) (by decide)))))
  · subst h1 h2
    exact br_t rfl (br_t rfl (br_t rfl (Z0 (by simp [fw_sa, fw_fin, f, f', b]))))
theorem fy_s40 {post : Int32 → SY → Prop} {j : Nat} {S FL x15 z0 : Int32} (hj : j < 16) (hx : (FL = 2 ∧ x15 = 1 ∧ z0 = 0) ∨ (FL = 6 ∧ x15 = 0 ∧ z0 = 1) ∨ (¬ FL = 2 ∧ ¬ FL = 6 ∧ x15 = 0 ∧ z0 = 0))
    (Z0 : fw_sa 4 0 FL S (cn0 j) = 0 → wY_packet_552 post S (nI j) 0 (-1) rc cc da (nI n) (nI m) ck fd rS rD rP rA cp cs ct cd cu cst cx cn0 cn1) (Z1 : ∀ x, fw_sa 4 0 FL S (cn0 j) = x → ¬ x = 0 → wY_packet_552 post S (nI j) 0 x rc cc da (nI n) (nI m) ck fd rS rD rP rA cp cs ct cd cu cst cx cn0 cn1) :
    wY_packet_251 post S FL (nI j) 0 4 (-1) x15 z0 rc cc da (nI n) (nI m) ck fd rS rD rP rA cp cs ct cd cu cst cx cn0 cn1 := by
  refine br_f (by decide) (br_f (by decide) (fy_iw0 hj (fw_br (fun b => Z0 (by simp [fw_sa, fw_fin, b])) (fun b => ?_))))
  rcases hx with ⟨f, h1, h2⟩ | ⟨f, h1, h2⟩ | ⟨f, f', h1, h2⟩
  · subst h1 h2
    exact br_f (by decide) (br_t rfl (br_f (by decide) (Z1 4 (by simp [fw_sa, fw_fin, f, b]) (by decide))))
  · subst h1 h2
    exact br_f (by decide) (br_t rfl (br_t rfl (br_f (by decide) (br_t rfl (Z1 4 (by simp [fw_sa, fw_fin, f, b]) (by decide))))))
  · subst h1 h2
    exact br_f (by decide) (br_t rfl (br_t rfl (br_t rfl (Z0 (by simp [fw_sa, fw_fin, f, f', b])))))
theorem fy_s41 {post : Int32 → SY → Prop} {j : Nat} {S FL x15 z0 : Int32} (hj : j < 16) (hx : (FL = 2 ∧ x15 = 1 ∧ z0 = 0) ∨ (FL = 6 ∧ x15 = 0 ∧ z0 = 1) ∨ (¬ FL = 2 ∧ ¬ FL = 6 ∧ x15 = 0 ∧ z0 = 0))
    (Z0 : fw_sa 4 1 FL S (cn1 j) = 0 → wY_packet_552 post S (nI j) 1 (-1) rc cc da (nI n) (nI m) ck fd rS rD rP rA cp cs ct cd cu cst cx cn0 cn1) (Z1 : ∀ x, fw_sa 4 1 FL S (cn1 j) = x → ¬ x = 0 → wY_packet_552 post S (nI j) 1 x rc cc da (nI n) (nI m) ck fd rS rD rP rA cp cs ct cd cu cst cx cn0 cn1) :
    wY_packet_251 post S FL (nI j) 1 4 (-1) x15 z0 rc cc da (nI n) (nI m) ck fd rS rD rP rA cp cs ct cd cu cst cx cn0 cn1 := by
  refine br_f (by decide) (br_f (by decide) (fy_iw1 hj (fw_br (fun b => Z0 (by simp [fw_sa, fw_fin, b])) (fun b => ?_))))
  rcases hx with ⟨f, h1, h2⟩ | ⟨f, h1, h2⟩ | ⟨f, f', h1, h2⟩
  · subst h1 h2
    exact br_f (by decide) (br_t rfl (br_f (by decide) (Z1 4 (by simp [fw_sa, fw_fin, f, b]) (by decide))))
  · subst h1 h2
    exact br_f (by decide) (br_t rfl (br_t rfl (br_f (by decide) (br_f (by decide) (Z1 6 (by simp [fw_sa, fw_fin, f, b]) (by decide))))))
  · subst h1 h2
    exact br_f (by decide) (br_t rfl (br_t rfl (br_t rfl (Z0 (by simp [fw_sa, fw_fin, f, f', b])))))
theorem fy_s50 {post : Int32 → SY → Prop} {j : Nat} {S FL x15 z0 : Int32} (hj : j < 16) (hx : (FL = 2 ∧ x15 = 1 ∧ z0 = 0) ∨ (FL = 6 ∧ x15 = 0 ∧ z0 = 1) ∨ (¬ FL = 2 ∧ ¬ FL = 6 ∧ x15 = 0 ∧ z0 = 0))
    (Z0 : fw_sa 5 0 FL S (cn0 j) = 0 → wY_packet_552 post S (nI j) 0 (-1) rc cc da (nI n) (nI m) ck fd rS rD rP rA cp cs ct cd cu cst cx cn0 cn1) (Z1 : ∀ x, fw_sa 5 0 FL S (cn0 j) = x → ¬ x = 0 → wY_packet_552 post S (nI j) 0 x rc cc da (nI n) (nI m) ck fd rS rD rP rA cp cs ct cd cu cst cx cn0 cn1) :
    wY_packet_251 post S FL (nI j) 0 5 (-1) x15 z0 rc cc da (nI n) (nI m) ck fd rS rD rP rA cp cs ct cd cu cst cx cn0 cn1 := by
  refine br_f (by decide) (br_f (by decide) (fy_iw0 hj (fw_br (fun b => Z0 (by simp [fw_sa, fw_fin, b])) (fun b => ?_))))
  rcases hx with ⟨f, h1, h2⟩ | ⟨f, h1, h2⟩ | ⟨f, f', h1, h2⟩
  · subst h1 h2
    exact br_f (by decide) (br_f (by decide) (br_t rfl (br_f (by decide) (Z1 5 (by simp [fw_sa, fw_fin, f, b]) (by decide)))))
  · subst h1 h2
    exact br_f (by decide) (br_f (by decide) (br_t rfl (br_t rfl (br_f (by decide) (br_f (by decide) (Z1 6 (by simp [fw_sa, fw_fin, f, b]) (by decide)))))))
  · subst h1 h2
    exact br_f (by decide) (br_f (by decide) (br_t rfl (br_t rfl (br_t rfl (Z0 (by simp [fw_sa, fw_fin, f, f', b]))))))
theorem fy_s51 {post : Int32 → SY → Prop} {j : Nat} {S FL x15 z0 : Int32} (hj : j < 16) (hx : (FL = 2 ∧ x15 = 1 ∧ z0 = 0) ∨ (FL = 6 ∧ x15 = 0 ∧ z0 = 1) ∨ (¬ FL = 2 ∧ ¬ FL = 6 ∧ x15 = 0 ∧ z0 = 0))
    (Z0 : fw_sa 5 1 FL S (cn1 j) = 0 → wY_packet_552 post S (nI j) 1 (-1) rc cc da (nI n) (nI m) ck fd rS rD rP rA cp cs ct cd cu cst cx cn0 cn1) (Z1 : ∀ x, fw_sa 5 1 FL S (cn1 j) = x → ¬ x = 0 → wY_packet_552 post S (nI j) 1 x rc cc da (nI n) (nI m) ck fd rS rD rP rA cp cs ct cd cu cst cx cn0 cn1) :
    wY_packet_251 post S FL (nI j) 1 5 (-1) x15 z0 rc cc da (nI n) (nI m) ck fd rS rD rP rA cp cs ct cd cu cst cx cn0 cn1 := by
  refine br_f (by decide) (br_f (by decide) (fy_iw1 hj (fw_br (fun b => Z0 (by simp [fw_sa, fw_fin, b])) (fun b => ?_))))
  rcases hx with ⟨f, h1, h2⟩ | ⟨f, h1, h2⟩ | ⟨f, f', h1, h2⟩
  · subst h1 h2
    exact br_f (by decide) (br_f (by decide) (br_t rfl (br_f (by decide) (Z1 5 (by simp [fw_sa, fw_fin, f, b]) (by decide)))))
  · subst h1 h2
    exact br_f (by decide) (br_f (by decide) (br_t rfl (br_t rfl (br_f (by decide) (br_t rfl (Z1 5 (by simp [fw_sa, fw_fin, f, b]) (by decide)))))))
  · subst h1 h2
    exact br_f (by decide) (br_f (by decide) (br_t rfl (br_t rfl (br_t rfl (Z0 (by simp [fw_sa, fw_fin, f, f', b]))))))
theorem fy_s60 {post : Int32 → SY → Prop} {j : Nat} {S FL x15 z0 : Int32} (hj : j < 16) (hx : (FL = 2 ∧ x15 = 1 ∧ z0 = 0) ∨ (FL = 6 ∧ x15 = 0 ∧ z0 = 1) ∨ (¬ FL = 2 ∧ ¬ FL = 6 ∧ x15 = 0 ∧ z0 = 0))
    (Z0 : fw_sa 6 0 FL S (cn0 j) = 0 → wY_packet_552 post S (nI j) 0 (-1) rc cc da (nI n) (nI m) ck fd rS rD rP rA cp cs ct cd cu cst cx cn0 cn1) (Z1 : ∀ x, fw_sa 6 0 FL S (cn0 j) = x → ¬ x = 0 → wY_packet_552 post S (nI j) 0 x rc cc da (nI n) (nI m) ck fd rS rD rP rA cp cs ct cd cu cst cx cn0 cn1) :
    wY_packet_251 post S FL (nI j) 0 6 (-1) x15 z0 rc cc da (nI n) (nI m) ck fd rS rD rP rA cp cs ct cd cu cst cx cn0 cn1 := by
  refine br_f (by decide) (br_f (by decide) (fy_iw0 hj (fw_br (fun b => Z0 (by simp [fw_sa, fw_fin, b])) (fun b => ?_))))
  rcases hx with ⟨f, h1, h2⟩ | ⟨f, h1, h2⟩ | ⟨f, f', h1, h2⟩
  · subst h1 h2
    exact br_f (by decide) (br_f (by decide) (br_f (by decide) (br_t rfl (br_f (by decide) (Z1 7 (by simp [fw_sa, fw_fin, f, b]) (by decide))))))
  · subst h1 h2
    exact br_f (by decide) (br_f (by decide) (br_f (by decide) (br_t rfl (br_t rfl (br_f (by decide) (Z1 6 (by simp [fw_sa, fw_fin, f, b]) (by decide)))))))
  · subst h1 h2
    exact br_f (by decide) (br_f (by decide) (br_f (by decide) (br_t rfl (br_t rfl (br_t rfl (Z0 (by simp [fw_sa, fw_fin, f, f', b])))))))
theorem fy_s61 {post : Int32 → SY → Prop} {j : Nat} {S FL x15 z0 : Int32} (hj : j < 16) (hx : (FL = 2 ∧ x15 = 1 ∧ z0 = 0) ∨ (FL = 6 ∧ x15 = 0 ∧ z0 = 1) ∨ (¬ FL = 2 ∧ ¬ FL = 6 ∧ x15 = 0 ∧ z0 = 0))
    (Z0 : fw_sa 6 1 FL S (cn1 j) = 0 → wY_packet_552 post S (nI j) 1 (-1) rc cc da (nI n) (nI m) ck fd rS rD rP rA cp cs ct cd cu cst cx cn0 cn1) (Z1 : ∀ x, fw_sa 6 1 FL S (cn1 j) = x → ¬ x = 0 → wY_packet_552 post S (nI j) 1 x rc cc da (nI n) (nI m) ck fd rS rD rP rA cp cs ct cd cu cst cx cn0 cn1) :
    wY_packet_251 post S FL (nI j) 1 6 (-1) x15 z0 rc cc da (nI n) (nI m) ck fd rS rD rP rA cp cs ct cd cu cst cx cn0 cn1 := by
  refine br_f (by decide) (br_f (by decide) (fy_iw1 hj (fw_br (fun b => Z0 (by simp [fw_sa, fw_fin, b])) (fun b => ?_))))
  rcases hx with ⟨f, h1, h2⟩ | ⟨f, h1, h2⟩ | ⟨f, f', h1, h2⟩
  · subst h1 h2
    exact br_f (by decide) (br_f (by decide) (br_f (by decide) (br_t rfl (br_f (by decide) (Z1 7 (by simp [fw_sa, fw_fin, f, b]) (by decide))))))
  · subst h1 h2
    exact br_f (by decide) (br_f (by decide) (br_f (by decide) (br_t rfl (br_t rfl (br_f (by decide) (Z1 6 (by simp [fw_sa, fw_fin, f, b]) (by decide)))))))
  · subst h1 h2
    exact br_f (by decide) (br_f (by decide) (br_f (by decide) (br_t rfl (br_t rfl (br_t rfl (Z0 (by simp [fw_sa, fw_fin, f, f', b])))))))
theorem fy_s70 {post : Int32 → SY → Prop} {j : Nat} {S FL x15 z0 : Int32} (hj : j < 16) (hx : (FL = 2 ∧ x15 = 1 ∧ z0 = 0) ∨ (FL = 6 ∧ x15 = 0 ∧ z0 = 1) ∨ (¬ FL = 2 ∧ ¬ FL = 6 ∧ x15 = 0 ∧ z0 = 0))
    (Z0 : fw_sa 7 0 FL S (cn0 j) = 0 → wY_packet_552 post S (nI j) 0 (-1) rc cc da (nI n) (nI m) ck fd rS rD rP rA cp cs ct cd cu cst cx cn0 cn1) (Z1 : ∀ x, fw_sa 7 0 FL S (cn0 j) = x → ¬ x = 0 → wY_packet_552 post S (nI j) 0 x rc cc da (nI n) (nI m) ck fd rS rD rP rA cp cs ct cd cu cst cx cn0 cn1) :
    wY_packet_251 post S FL (nI j) 0 7 (-1) x15 z0 rc cc da (nI n) (nI m) ck fd rS rD rP rA cp cs ct cd cu cst cx cn0 cn1 := by
  refine br_f (by decide) (br_f (by decide) (fy_iw0 hj (fw_br (fun b => Z0 (by simp [fw_sa, fw_fin, b])) (fun b => ?_))))
  rcases hx with ⟨f, h1, h2⟩ | ⟨f, h1, h2⟩ | ⟨f, f', h1, h2⟩
  · subst h1 h2
    exact br_f (by decide) (br_f (by decide) (br_f (by decide) (br_f (by decide) (br_t rfl (br_f (by decide) (Z1 7 (by simp [fw_sa, fw_fin, f, b]) (by decide)))))))
  · subst h1 h2
    exact br_f (by decide) (br_f (by decide) (br_f (by decide) (br_f (by decide) (br_t rfl (br_t rfl (br_f (by decide) (Z1 7 (by simp [fw_sa, fw_fin, f, b]) (by decide))))))))
  · subst h1 h2
    exact br_f (by decide) (br_f (by decide) (br_f (by decide) (br_f (by decide) (br_t rfl (br_t rfl (br_t rfl (Z0 (by simp [fw_sa, fw_fin, f, f', b]))))))))
theorem fy_s71 {post : Int32 → SY → Prop} {j : Nat} {S FL x15 z0 : Int32} (hj : j < 16) (hx : (FL = 2 ∧ x15 = 1 ∧ z0 = 0) ∨ (FL = 6 ∧ x15 = 0 ∧ z0 = 1) ∨ (¬ FL = 2 ∧ ¬ FL = 6 ∧ x15 = 0 ∧ z0 = 0))
    (Z0 : fw_sa 7 1 FL S (cn1 j) = 0 → wY_packet_552 post S (nI j) 1 (-1) rc cc da (nI n) (nI m) ck fd rS rD rP rA cp cs ct cd cu cst cx cn0 cn1) (Z1 : ∀ x, fw_sa 7 1 FL S (cn1 j) = x → ¬ x = 0 → wY_packet_552 post S (nI j) 1 x rc cc da (nI n) (nI m) ck fd rS rD rP rA cp cs ct cd cu cst cx cn0 cn1) :
    wY_packet_251 post S FL (nI j) 1 7 (-1) x15 z0 rc cc da (nI n) (nI m) ck fd rS rD rP rA cp cs ct cd cu cst cx cn0 cn1 := by
  refine br_f (by decide) (br_f (by decide) (fy_iw1 hj (fw_br (fun b => Z0 (by simp [fw_sa, fw_fin, b])) (fun b => ?_))))
  rcases hx with ⟨f, h1, h2⟩ | ⟨f, h1, h2⟩ | ⟨f, f', h1, h2⟩
  · subst h1 h2
    exact br_f (by decide) (br_f (by decide) (br_f (by decide) (br_f (by decide) (br_t rfl (br_f (by decide) (Z1 7 (by simp [fw_sa, fw_fin, f, b]) (by decide)))))))
  · subst h1 h2
    exact br_f (by decide) (br_f (by decide) (br_f (by decide) (br_f (by decide) (br_t rfl (br_t rfl (br_f (by decide) (Z1 7 (by simp [fw_sa, fw_fin, f, b]) (by decide))))))))
  · subst h1 h2
    exact br_f (by decide) (br_f (by decide) (br_f (by decide) (br_f (by decide) (br_t rfl (br_t rfl (br_t rfl (Z0 (by simp [fw_sa, fw_fin, f, f', b]))))))))
end PY
end
section
section QY
variable {rc cc da ck fd : Int32} {rS rD rP rA pr ad po st ex nx cp cs ct cd cu cst cx cn0 cn1 : Nat → Int32} {n m : Nat}
theorem fy_pk0 {post : Int32 → SY → Prop} {p0 p1 p2 p3 : Int32} (hG : ¬ (fw_in p0 255 = true ∧ fw_in p1 255 = true ∧ fw_in p2 31 = true ∧ fw_in p3 255 = true ∧ ¬ ((p2 &&& 1) = 1 ∧ ¬ (p2 >>> ((1 : Int32) &&& 31)) = 0)))
    (H : post (-1) (rc, cc, da, nI n, nI m, ck, fd, rS, rD, rP, rA, cp, cs, ct, cd, cu, cst, cx, cn0, cn1)) : wpY_packet post (rc, cc, da, nI n, nI m, ck, fd, rS, rD, rP, rA, cp, cs, ct, cd, cu, cst, cx, cn0, cn1) p0 p1 p2 p3 := by
  unfold wpY_packet
  dsimp only
  refine br_c (fun _ => H) (fun a0 => br_c (fun _ => H) (fun a1 => br_c (fun _ => H) (fun b0 => br_c (fun b1 => br_c (fun _ => H) (fun c0 => br_c (fun _ => H) (fun c1 => br_c (fun _ => H) (fun d0 => br_c (fun d1 => nm_e (nm_e ?_)) (fun _ => H))))) (fun _ => H))))
  have i0 : fw_in p0 255 = true := fw_in_m a0 (Int32.not_lt.mp a1)
  have i1 : fw_in p1 255 = true := fw_in_m b0 b1
  have i2 : fw_in p2 31 = true := fw_in_m c0 (Int32.not_lt.mp c1)
  have i3 : fw_in p3 255 = true := fw_in_m d0 d1
  exact br_c (fun e => br_c (fun z => absurd ⟨i0, i1, i2, i3, fun c => c.2 z⟩ hG) (fun _ => H)) (fun e => absurd ⟨i0, i1, i2, i3, fun c => e c.1⟩ hG)
theorem fy_pk1 {post : Int32 → SY → Prop} {a q w s : Nat} (ha : a < 256) (hq : q < 256) (hw : w < 32) (hs : s < 256) (hG : ¬ (w % 2 = 1 ∧ ¬ w / 2 = 0))
    (H : wY_packet_72 post (nI a) (nI q) (nI s) (nI (w % 2)) (nI (w / 2)) rc cc da (nI n) (nI m) ck fd rS rD rP rA cp cs ct cd cu cst cx cn0 cn1) : wpY_packet post (rc, cc, da, nI n, nI m, ck, fd, rS, rD, rP, rA, cp, cs, ct, cd, cu, cst, cx, cn0, cn1) (nI a) (nI q) (nI w) (nI s) := by
  unfold wpY_packet
  dsimp only
  have e1 : nI w &&& 1 = nI (w % 2) := pk_andN (by omega) 1 (by decide)
  have e2 : nI w >>> ((1 : Int32) &&& 31) = nI (w / 2) := pk_shrN (by omega) _ 1 (by decide)
  rw [e1, e2]
  refine br_f (nI_pos (by omega)) (br_f (nI_nlt (a := 255) (by omega) (by decide)) (br_f (nI_pos (by omega)) (br_t (nI_le (b := 255) (by omega) (by decide)) (br_f (nI_pos (by omega)) (br_f (nI_nlt (a := 31) (by omega) (by decide)) (br_f (nI_pos (by omega)) (br_t (nI_le (b := 255) (by omega) (by decide)) (nm_e (nm_e ?_)))))))))
  refine br_c (fun e => br_c (fun _ => H) (fun z => ?_)) (fun _ => H)
  refine absurd ⟨(nI_eq (b := 1) (by omega) (by decide)).mp e, fun c => z ?_⟩ hG
  rw [c]; rfl
theorem fy_72N {post : Int32 → SY → Prop} {a q s : Nat} {P FL : Int32} (E : fw_E (fw_L (fw_XT pr ad po st ex nx) m) (fw_L (fw_YT cp cs ct cd cu cst cx cn0 cn1) m)) (hm : m ≤ 16) (hn : n ≤ 16) (ha : a < 256) (hq : q < 256)
    (N : fw_none (fw_XT pr ad po st ex nx) m P a q)
    (H : (fw_ac (fw_ff (fw_lo1 (-1) (fw_M rS rD rP rA (nI (a % 16)) (nI (a / 16)) (nI (q / 16)) P)) n 0) n rA da = 0 → post 0 (rc, cc, da, nI n, nI m, ck, fd, rS, rD, rP, rA, cp, cs, ct, cd, cu, cst, cx, cn0, cn1)) ∧ (¬ fw_ac (fw_ff (fw_lo1 (-1) (fw_M rS rD rP rA (nI (a % 16)) (nI (a / 16)) (nI (q / 16)) P)) n 0) n rA da = 0 →
      ((P = 0 → ((FL = 1 → wY_packet_657 post (nI s) P (nI (a % 16)) (nI (a / 16)) (nI (q % 16)) (nI (q / 16)) rc cc da (nI n) (nI m) ck fd rS rD rP rA cp cs ct cd cu cst cx cn0 cn1) ∧ (¬ FL = 1 → post 3 (rc, cc, da, nI n, nI m, ck, fd, rS, rD, rP, rA, cp, cs, ct, cd, cu, cst, cx, cn0, cn1)))) ∧ (¬ P = 0 → wY_packet_657 post (nI s) P (nI (a % 16)) (nI (a / 16)) (nI (q % 16)) (nI (q / 16)) rc cc da (nI n) (nI m) ck fd rS rD rP rA cp cs ct cd cu cst cx cn0 cn1)))) :
    wY_packet_72 post (nI a) (nI q) (nI s) P FL rc cc da (nI n) (nI m) ck fd rS rD rP rA cp cs ct cd cu cst cx cn0 cn1 := by
  unfold wY_packet_72
  exact nm_r (fw_lo (by omega)) (nm_r (fw_hi (by omega)) (nm_r (fw_lo (by omega)) (nm_r (fw_hi (by omega)) (fy_lkN E hm ha hq N (br_t (by decide) (fy_decide hn H))))))
theorem fy_72F {post : Int32 → SY → Prop} {a q s i d : Nat} {P FL : Int32} (E : fw_E (fw_L (fw_XT pr ad po st ex nx) m) (fw_L (fw_YT cp cs ct cd cu cst cx cn0 cn1) m)) (hm : m ≤ 16) (ha : a < 256) (hq : q < 256)
    (F : fw_F (fw_XT pr ad po st ex nx) m P a q i d)
    (H : ∀ j, j < m → fw_g (fw_YT cp cs ct cd cu cst cx cn0 cn1 j) = fw_XT pr ad po st ex nx i →
      ((P = 1 → ((nI d = 1 → wY_packet_149 post (nI j) 9 rc cc da (nI n) (nI m) ck (nI d) rS rD rP rA cp cs ct cd cu cst cx cn0 cn1) ∧ (¬ nI d = 1 → wY_packet_149 post (nI j) (cst j) rc cc da (nI n) (nI m) ck (nI d) rS rD rP rA cp cs ct cd cu cst cx cn0 cn1))) ∧ (¬ P = 1 →
        (((FL &&& 8) = 0 → ((FL = 2 → wY_packet_237 post (nI s) FL (nI j) (nI d) (cst j) (-1) 1 rc cc da (nI n) (nI m) ck (nI d) rS rD rP rA cp cs ct cd cu cst cx cn0 cn1) ∧ (¬ FL = 2 → wY_packet_237 post (nI s) FL (nI j) (nI d) (cst j) (-1) 0 rc cc da (nI n) (nI m) ck (nI d) rS rD rP rA cp cs ct cd cu cst cx cn0 cn1))) ∧ (¬ (FL &&& 8) = 0 →
          ((cst j = 1 → ((nI d = 1 → wY_packet_213 post (nI j) rc cc da (nI n) (nI m) ck (nI d) rS rD rP rA cp cs ct cd cu cst cx cn0 cn1) ∧ (¬ nI d = 1 → wY_packet_200 post (nI s) (nI j) (nI d) rc cc da (nI n) (nI m) ck (nI d) rS rD rP rA cp cs ct cd cu cst cx cn0 cn1))) ∧ (¬ cst j = 1 → wY_packet_200 post (nI s) (nI j) (nI d) rc cc da (nI n) (nI m) ck (nI d) rS rD rP rA cp cs ct cd cu cst cx cn0 cn1))))))) :
    wY_packet_72 post (nI a) (nI q) (nI s) P FL rc cc da (nI n) (nI m) ck fd rS rD rP rA cp cs ct cd cu cst cx cn0 cn1 := by
  unfold wY_packet_72
  refine nm_r (fw_lo (by omega)) (nm_r (fw_hi (by omega)) (nm_r (fw_lo (by omega)) (nm_r (fw_hi (by omega)) (fy_lkF E hm ha hq F (fun j hj hg => br_f (nI_pos (by omega)) ⟨vp_in_nI (by omega) (by decide), nm_r ?_ (H j hj hg)⟩)))))
  exact congrArg cst (nI_clamp (by omega))
theorem fy_tcp {post : Int32 → SY → Prop} {j d k : Nat} {S FL : Int32} (hj : j < 16) (hd : d < 2) (hk : k < 7) (hst : cst j = nI (k + 1))
    (Z0 : fw_sa (cst j) (nI d) FL S (if d = 0 then cn0 j else cn1 j) = 0 → wY_packet_552 post S (nI j) (nI d) (-1) rc cc da (nI n) (nI m) ck fd rS rD rP rA cp cs ct cd cu cst cx cn0 cn1)
    (Z1 : ∀ x, fw_sa (cst j) (nI d) FL S (if d = 0 then cn0 j else cn1 j) = x → ¬ x = 0 → wY_packet_552 post S (nI j) (nI d) x rc cc da (nI n) (nI m) ck fd rS rD rP rA cp cs ct cd cu cst cx cn0 cn1) :
    (FL = 2 → wY_packet_237 post S FL (nI j) (nI d) (cst j) (-1) 1 rc cc da (nI n) (nI m) ck fd rS rD rP rA cp cs ct cd cu cst cx cn0 cn1) ∧ (¬ FL = 2 → wY_packet_237 post S FL (nI j) (nI d) (cst j) (-1) 0 rc cc da (nI n) (nI m) ck fd rS rD rP rA cp cs ct cd cu cst cx cn0 cn1) := by
  have W : ∀ x15 z0 : Int32, ((FL = 2 ∧ x15 = 1 ∧ z0 = 0) ∨ (FL = 6 ∧ x15 = 0 ∧ z0 = 1) ∨ (¬ FL = 2 ∧ ¬ FL = 6 ∧ x15 = 0 ∧ z0 = 0)) → wY_packet_251 post S FL (nI j) (nI d) (cst j) (-1) x15 z0 rc cc da (nI n) (nI m) ck fd rS rD rP rA cp cs ct cd cu cst cx cn0 cn1 := by
    intro x15 z0 hx
    rw [hst] at Z0 Z1 ⊢
    have k7 : k = 0 ∨ k = 1 ∨ k = 2 ∨ k = 3 ∨ k = 4 ∨ k = 5 ∨ k = 6 := by omega
    have d2 : d = 0 ∨ d = 1 := by omega
    rcases d2 with rfl | rfl
    · rw [if_pos rfl] at Z0 Z1
      rcases k7 with rfl | rfl | rfl | rfl | rfl | rfl | rfl
      · exact fy_s10 hj hx Z0 Z1
      · exact fy_s20 hj hx Z0 Z1
      · exact fy_s30 hj hx Z0 Z1
      · exact fy_s40 hj hx Z0 Z1
      · exact fy_s50 hj hx Z0 Z1
      · exact fy_s60 hj hx Z0 Z1
      · exact fy_s70 hj hx Z0 Z1
    · rw [if_neg (by decide)] at Z0 Z1
      rcases k7 with rfl | rfl | rfl | rfl | rfl | rfl | rfl
      · exact fy_s11 hj hx Z0 Z1
      · exact fy_s21 hj hx Z0 Z1
      · exact fy_s31 hj hx Z0 Z1
      · exact fy_s41 hj hx Z0 Z1
      · exact fy_s51 hj hx Z0 Z1
      · exact fy_s61 hj hx Z0 Z1
      · exact fy_s71 hj hx Z0 Z1
  exact br_c (fun f => br_f (by rw [f]; decide) (W 1 0 (Or.inl ⟨f, rfl, rfl⟩))) (fun f => br_c (fun g => W 0 1 (Or.inr (Or.inl ⟨g, rfl, rfl⟩))) (fun g => W 0 0 (Or.inr (Or.inr ⟨f, g, rfl, rfl⟩))))
theorem fy_213 {post : Int32 → SY → Prop} {j m' : Nat} (hm : m' < 16) (hj : j ≤ m')
    (H : ∀ (cp' cs' ct' cd' cu' cst' cx' cn0' cn1' : Nat → Int32), fw_SH (fw_YT cp cs ct cd cu cst cx cn0 cn1) (fw_YT cp' cs' ct' cd' cu' cst' cx' cn0' cn1') j m' → post 5 (rc, cc, da, nI n, nI m', ck, fd, rS, rD, rP, rA, cp', cs', ct', cd', cu', cst', cx', cn0', cn1')) :
    wY_packet_213 post (nI j) rc cc da (nI n) (nI (m' + 1)) ck fd rS rD rP rA cp cs ct cd cu cst cx cn0 cn1 :=
  ⟨m' + 1, fy_rc hm H (m' - j) j cp cs ct cd cu cst cx cn0 cn1 (by omega) (Nat.le_refl _) fw_SH_0 (m' + 1) (by omega)⟩
theorem fy_200 {post : Int32 → SY → Prop} {j d : Nat} {S : Int32} (hj : j < 16) (hd : d < 2)
    (h0 : fw_iw S (if d = 0 then cn0 j else cn1 j) = false → post 3 (rc, cc, da, nI n, nI m, ck, fd, rS, rD, rP, rA, cp, cs, ct, cd, cu, cst, cx, cn0, cn1)) (h1 : fw_iw S (if d = 0 then cn0 j else cn1 j) = true → wY_packet_213 post (nI j) rc cc da (nI n) (nI m) ck fd rS rD rP rA cp cs ct cd cu cst cx cn0 cn1) :
    wY_packet_200 post S (nI j) (nI d) rc cc da (nI n) (nI m) ck fd rS rD rP rA cp cs ct cd cu cst cx cn0 cn1 := by
  have d2 : d = 0 ∨ d = 1 := by omega
  rcases d2 with rfl | rfl
  · rw [if_pos rfl] at h0 h1
    exact fy_iw0 hj (fw_br h0 h1)
  · rw [if_neg (by decide)] at h0 h1
    exact fy_iw1 hj (fw_br h0 h1)
theorem fw_Kp {p : Int32} {a q d : Nat} : (fw_K p a q d).1 = p := by
  unfold fw_K
  split <;> rfl
theorem fw_Fp {p : Int32} {a q i d : Nat} (F : fw_F (fw_XT pr ad po st ex nx) m p a q i d) : pr i = p := (congrArg (fun t => t.1) F.2.2.1).trans fw_Kp
theorem fw_nxd {i j d : Nat} (hd : d < 2) (hg : fw_g (fw_YT cp cs ct cd cu cst cx cn0 cn1 j) = fw_XT pr ad po st ex nx i) (hp : ¬ pr i = 1) : nx (2 * i + d) = if d = 0 then cn0 j else cn1 j := by
  obtain ⟨g1, g2, g3, g4, g5, g6, g7⟩ := fw_gx hg
  rw [g1, if_neg hp] at g6 g7
  have d2 : d = 0 ∨ d = 1 := by omega
  rcases d2 with rfl | rfl
  · exact g6.symm
  · exact g7.symm
end QY
end
section
theorem i_vc_packet {k : Nat} {u : SX} {v : SY} (I : i_Rel k u v) (hk : k + 5 ≤ 2563) (v1 : Int32) (v2 : Int32) (v3 : Int32) (v4 : Int32) : wpX_packet (fun r u' => wpY_packet (fun r' v' => r' = r ∧ i_Rel (k + 5) u' v') v v1 v2 v3 v4) u v1 v2 v3 v4 := by
  have I' := I
  obtain ⟨rc, cc, n, m, da, ck, fd, r, pr, ad, po, st, ex, nx, rS, rD, rP, rA, cp, cs, ct, cd, cu, cst, cx, cn0, cn1, rfl, rfl, hrc, hcc, hnr, hmc, R, E⟩ := I
  have hm : m ≤ 16 := by omega
  have hn : n ≤ 16 := by omega
  have J : ∀ e, i_Rel (k + 5) (nI rc, nI cc, da, nI n, nI m, ck, r, pr, ad, po, st, ex, nx) (nI rc, nI cc, da, nI n, nI m, ck, e, rS, rD, rP, rA, cp, cs, ct, cd, cu, cst, cx, cn0, cn1) := fun e => ⟨rc, cc, n, m, da, ck, e, r, pr, ad, po, st, ex, nx, rS, rD, rP, rA, cp, cs, ct, cd, cu, cst, cx, cn0, cn1, rfl, rfl, hrc, hcc, hnr, hmc, R, E⟩
  by_cases hG : fw_in v1 255 = true ∧ fw_in v2 255 = true ∧ fw_in v3 31 = true ∧ fw_in v4 255 = true ∧ ¬ ((v3 &&& 1) = 1 ∧ ¬ (v3 >>> ((1 : Int32) &&& 31)) = 0)
  case neg => exact fx_pk0 hG (fy_pk0 hG ⟨rfl, I'⟩)
  obtain ⟨i1, i2, i3, i4, hG⟩ := hG
  obtain ⟨a, ha, rfl⟩ : fw_r 256 v1 := (fw_in_r 255 (by decide)).mp i1
  obtain ⟨q, hq, rfl⟩ : fw_r 256 v2 := (fw_in_r 255 (by decide)).mp i2
  obtain ⟨w, hw, rfl⟩ : fw_r 32 v3 := (fw_in_r 31 (by decide)).mp i3
  obtain ⟨s, hs, rfl⟩ : fw_r 256 v4 := (fw_in_r 255 (by decide)).mp i4
  have hW : ¬ (w % 2 = 1 ∧ ¬ w / 2 = 0) := by
    intro ⟨c1, c2⟩
    have e1 : nI w &&& 1 = nI (w % 2) := pk_andN (by omega) 1 (by decide)
    have e2 : nI w >>> ((1 : Int32) &&& 31) = nI (w / 2) := pk_shrN (by omega) _ 1 (by decide)
    rw [e1, e2] at hG
    exact hG ⟨by rw [c1]; rfl, nI_ne0 (by omega) (by omega)⟩
  have hP : nI (w % 2) = 0 ∨ nI (w % 2) = 1 := by
    have c : w % 2 = 0 ∨ w % 2 = 1 := by omega
    rcases c with c | c
    · exact Or.inl (by rw [c]; rfl)
    · exact Or.inr (by rw [c]; rfl)
  have hsq : fw_r 256 ((nI s + 1) &&& 255) := pk_andE _ 8 (by decide)
  refine fx_pk1 ha hq hw hs hW ?_
  unfold wX_packet_57
  refine fx_lookup hm ha hq (fun i d F => br_f (fw_ne1 (by have := F.1; have := F.2.1; omega)) ?_) (fun N => br_t rfl ?_)
  · have hi := F.1
    have hd := F.2.1
    have hpi := fw_Fp F
    have YF := fun (post : Int32 → SY → Prop) => fun H => fy_pk1 (post := post) (rc := nI rc) (cc := nI cc) (da := da) (ck := ck) (fd := fd) (n := n) (rS := rS) (rD := rD) (rP := rP) (rA := rA) ha hq hw hs hW (fy_72F (FL := nI (w / 2)) E hm ha hq F H)
    refine br_c (fun p => ?_) (fun p => br_c (fun f8 => ?_) (fun f8 => ?_))
    · have d2 : d = 0 ∨ d = 1 := by omega
      rcases d2 with rfl | rfl
      · refine fx_udp (t := st i) (by omega) hd (Or.inr ⟨rfl, rfl⟩) (YF _ (fun j hj hg => br_t p (br_f (by decide) ?_)))
        rw [(fw_gx hg).2.2.2.1]
        exact fy_149 (by omega) ⟨rfl, rc, cc, n, m, da, ck, nI 0, r, pr, ad, po, _, _, nx, rS, rD, rP, rA, cp, cs, ct, cd, cu, _, _, cn0, cn1, rfl, rfl, hrc, hcc, hnr, hmc, R, fw_udp E hi hj hg (hpi.trans p) _ _⟩
      · refine fx_udp (t := 9) (by omega) hd (Or.inl ⟨rfl, rfl⟩) (YF _ (fun j hj hg => br_t p (br_t rfl ?_)))
        exact fy_149 (by omega) ⟨rfl, rc, cc, n, m, da, ck, nI 1, r, pr, ad, po, _, _, nx, rS, rD, rP, rA, cp, cs, ct, cd, cu, _, _, cn0, cn1, rfl, rfl, hrc, hcc, hnr, hmc, R, fw_udp E hi hj hg (hpi.trans p) _ _⟩
    · have hp0 : pr i = 0 := hpi.trans (hP.resolve_right p)
      have hp1 : ¬ pr i = 1 := by rw [hp0]; decide
      obtain ⟨o1, o2, o3, o4, o5, o6, o7⟩ := fw_okx E hi
      obtain ⟨k0, hk0, hst⟩ := o4 hp0
      have hv := fw_sa_ok ⟨k0, hk0, hst⟩ (nI d) (nI (w / 2)) (nI s) (nx (2 * i + d))
      refine fx_tcp (by omega) hd (fun e => YF _ (fun j hj hg => br_f p (br_t f8 ?_))) (fun e => YF _ (fun j hj hg => br_f p (br_t f8 ?_)))
      · have g4 := (fw_gx hg).2.2.2.1
        refine fy_tcp (by omega) hd hk0 (g4.trans hst) (fun _ => br_f (by decide) ⟨rfl, J _⟩) (fun x h1 h2 => ?_)
        rw [g4, ← fw_nxd hd hg hp1, e] at h1
        exact absurd h1.symm h2
      · have g4 := (fw_gx hg).2.2.2.1
        obtain ⟨k1, hk1, ev⟩ := hv.resolve_left e
        refine fy_tcp (by omega) hd hk0 (g4.trans hst) (fun h1 => ?_) (fun x h1 h2 => ?_)
        · rw [g4, ← fw_nxd hd hg hp1] at h1
          exact absurd h1 e
        · rw [g4, ← fw_nxd hd hg hp1, ev] at h1
          subst h1
          rw [ev]
          have v : vp_in (nI j) 16 := vp_in_nI (by omega) (by decide)
          unfold wY_packet_552
          rw [nI_clamp (n := j) (by omega)]
          have d2 : d = 0 ∨ d = 1 := by omega
          rcases d2 with rfl | rfl
          · exact br_t (nI_pos' (by omega)) (br_t rfl ⟨v, nm_e (fy_597 (by omega) ⟨rfl, rc, cc, n, m, da, ck, nI 0, r, pr, ad, po, _, _, _, rS, rD, rP, rA, cp, cs, ct, cd, cu, _, _, _, cn1, rfl, rfl, hrc, hcc, hnr, hmc, R, fw_tcp0 E hi hj hg hp0 _ _ hk1 hsq⟩)⟩)
          · exact br_t (nI_pos' (by omega)) (br_f (by decide) ⟨v, nm_e (fy_597 (by omega) ⟨rfl, rc, cc, n, m, da, ck, nI 1, r, pr, ad, po, _, _, _, rS, rD, rP, rA, cp, cs, ct, cd, cu, _, _, cn0, _, rfl, rfl, hrc, hcc, hnr, hmc, R, fw_tcp1 E hi hj hg hp0 _ _ hk1 hsq⟩)⟩)
    · have hp0 : pr i = 0 := hpi.trans (hP.resolve_right p)
      have hp1 : ¬ pr i = 1 := by rw [hp0]; decide
      obtain ⟨m', rfl⟩ : ∃ m', m = m' + 1 := ⟨m - 1, by omega⟩
      refine fx_rst (by omega) (by omega) hd (fun c => YF _ (fun j hj hg => br_f p (br_f f8 ?_))) (fun c => YF _ (fun j hj hg => br_f p (br_f f8 ?_)))
      · have g4 := (fw_gx hg).2.2.2.1
        have T : wY_packet_200 (fun r' v' => r' = 3 ∧ i_Rel (k + 5) (nI rc, nI cc, da, nI n, nI (m' + 1), ck, r, pr, ad, po, st, ex, nx) v') (nI s) (nI j) (nI d) (nI rc) (nI cc) da (nI n) (nI (m' + 1)) ck (nI d) rS rD rP rA cp cs ct cd cu cst cx cn0 cn1 := by
          refine fy_200 (by omega) hd (fun _ => ⟨rfl, J _⟩) (fun h => ?_)
          rw [← fw_nxd hd hg hp1] at h
          exact absurd (Or.inr h) c
        refine br_c (fun z => br_c (fun y => ?_) (fun _ => T)) (fun _ => T)
        exact absurd (Or.inl ⟨g4.symm.trans z, (nI_eq (b := 1) (by omega) (by decide)).mp y⟩) c
      · have g4 := (fw_gx hg).2.2.2.1
        have D := fy_213 (post := fun r' v' => r' = 5 ∧ i_Rel (k + 5) (nI rc, nI cc, da, nI n, nI m', ck, r, upd pr i (pr m'), upd ad i (ad m'), upd po i (po m'), upd st i (st m'), upd ex i (ex m'), upd (upd nx (2 * i) (nx (2 * m'))) (2 * i + 1) (nx (2 * m' + 1))) v') (rc := nI rc) (cc := nI cc) (da := da) (ck := ck) (fd := nI d) (n := n) (rS := rS) (rD := rD) (rP := rP) (rA := rA) (cp := cp) (cs := cs) (ct := ct) (cd := cd) (cu := cu) (cst := cst) (cx := cx) (cn0 := cn0) (cn1 := cn1) (j := j) (m' := m') (by omega) (by omega)
          (fun cp' cs' ct' cd' cu' cst' cx' cn0' cn1' h => ⟨rfl, rc, cc, n, m', da, ck, nI d, r, _, _, _, _, _, _, rS, rD, rP, rA, cp', cs', ct', cd', cu', cst', cx', cn0', cn1', rfl, rfl, hrc, hcc, hnr, by omega, R,
            fw_E_del E (fw_swap hi (fun j _ hn => fw_XT_n hn) (fun _ => fw_XT_s)) (fw_SH_e h hj) hg⟩)
        refine br_c (fun z => br_c (fun y => D) (fun y => fy_200 (by omega) hd (fun h => ?_) (fun _ => D))) (fun z => fy_200 (by omega) hd (fun h => ?_) (fun _ => D))
        · rw [← fw_nxd hd hg hp1] at h
          rcases c with c | c
          · exact absurd (by rw [c.2]; rfl) y
          · exact absurd (c.symm.trans h) (by decide)
        · rw [← fw_nxd hd hg hp1] at h
          rcases c with c | c
          · exact absurd (g4.trans c.1) z
          · exact absurd (c.symm.trans h) (by decide)
  · have YN := fun (post : Int32 → SY → Prop) => fun H => fy_pk1 (post := post) (rc := nI rc) (cc := nI cc) (da := da) (ck := ck) (fd := fd) (n := n) (rS := rS) (rD := rD) (rP := rP) (rA := rA) ha hq hw hs hW (fy_72N (FL := nI (w / 2)) E hm hn ha hq N H)
    unfold wpX_verdictOnUntracked
    dsimp only
    refine fx_decision R hn ha hq (br_c (fun e => br_f (by decide) (YN _ (br_t e ⟨rfl, I'⟩))) (fun e => br_c (fun p => br_c (fun f => ?_) (fun f => br_f (by decide) (YN _ (br_f e (br_t p (br_f f ⟨rfl, I'⟩)))))) (fun p => ?_)))
    · refine br_c (fun lt => br_t rfl ?_) (fun lt => br_f (by decide) (YN _ (br_f e (br_t p (br_t f (br_f lt ⟨rfl, I'⟩))))))
      have hmm : m < cc := (nI_ltI (by omega) (by omega)).mp lt
      refine fx_create (z := (nI s + 1) &&& 255) (t := 1) (by omega) (Or.inl ⟨p, rfl, rfl⟩) (YN _ (br_f e (br_t p (br_t f (br_t lt (br_t p (fy_681 (y0 := (nI s + 1) &&& 255) (by omega) (Or.inl ⟨p, rfl⟩) ⟨rfl, ?_⟩)))))))
      exact ⟨rc, cc, n, m + 1, da, ck, fd, r, _, _, _, _, _, _, rS, rD, rP, rA, _, _, _, _, _, _, _, _, _, rfl, rfl, hrc, hcc, hnr, hmm, R,
        fw_new E N ha hq ⟨Or.inl p, ⟨a, ha, rfl⟩, ⟨q, hq, rfl⟩, fun _ => ⟨0, by decide, rfl⟩, Or.inr hsq, Or.inl rfl, fun c => absurd (p.symm.trans c) (by decide)⟩ (if_neg (by rw [p]; decide)) (by split <;> rfl)⟩
    · have p1 := hP.resolve_left p
      refine br_c (fun lt => br_t rfl ?_) (fun lt => br_f (by decide) (YN _ (br_f e (br_f p (br_f lt ⟨rfl, I'⟩)))))
      have hmm : m < cc := (nI_ltI (by omega) (by omega)).mp lt
      refine fx_create (z := -1) (t := 8) (by omega) (Or.inr ⟨p, rfl, rfl⟩) (YN _ (br_f e (br_f p (br_t lt (br_f p (fy_681 (y0 := 0) (by omega) (Or.inr ⟨p, rfl⟩) ⟨rfl, ?_⟩))))))
      exact ⟨rc, cc, n, m + 1, da, ck, fd, r, _, _, _, _, _, _, rS, rD, rP, rA, _, _, _, _, _, _, _, _, _, rfl, rfl, hrc, hcc, hnr, hmm, R,
        fw_new E N ha hq ⟨Or.inr p1, ⟨a, ha, rfl⟩, ⟨q, hq, rfl⟩, fun c => absurd c p, Or.inl rfl, Or.inl rfl, fun _ => ⟨rfl, rfl⟩⟩ (if_pos p1) (by split <;> rfl)⟩
end
section
def fw_cl (p lo hi : Int32) : Int32 := if lo ≤ p then (if p ≤ hi then p else hi) else lo
theorem fx_clamp {post : Int32 → Prop} {p lo hi : Int32} (H : post (fw_cl p lo hi)) : wpX_clamp post p lo hi := by
  unfold fw_cl at H
  refine br_c (fun a => br_c (fun b => ?_) (fun b => ?_)) (fun a => ?_)
  · rw [if_pos a, if_pos b] at H; exact H
  · rw [if_pos a, if_neg b] at H; exact H
  · rw [if_neg a] at H; exact H
theorem fw_cl16 (p : Int32) : ∃ c : Nat, c ≤ 16 ∧ fw_cl p 4 16 = nI c := by
  unfold fw_cl
  by_cases a : 4 ≤ p
  · rw [if_pos a]
    by_cases b : p ≤ 16
    · rw [if_pos b]
      have h : ¬ p < 0 := Int32.not_lt.mpr (Int32.le_trans (by decide) a)
      obtain ⟨j, hj, rfl⟩ := nI_of h
      exact ⟨j, (nI_leI (b := 16) hj (by decide)).mp b, rfl⟩
    · rw [if_neg b]; exact ⟨16, by decide, rfl⟩
  · rw [if_neg a]; exact ⟨4, by decide, rfl⟩
theorem fy_i155 {post : SY → Prop} {x3 z0 rc cc da n0 m0 ck fd : Int32} {rS rD rP rA cp cs ct cd cu cst cx cn0 cn1 : Nat → Int32} (H : post (rc, z0, fw_cl x3 0 1, n0, m0, ck, fd, rS, rD, rP, rA, cp, cs, ct, cd, cu, cst, cx, cn0, cn1)) : wY_init_155 post x3 z0 rc cc da n0 m0 ck fd rS rD rP rA cp cs ct cd cu cst cx cn0 cn1 := by
  unfold fw_cl at H
  refine br_c (fun a => br_c (fun b => ?_) (fun b => ?_)) (fun a => ?_)
  · rw [if_pos a, if_pos b] at H; exact H
  · rw [if_pos a, if_neg b] at H; exact H
  · rw [if_neg a] at H; exact H
theorem fy_init {post : SY → Prop} {p0 p1 p2 : Int32} (H : post (fw_cl p0 4 16, fw_cl p1 4 16, fw_cl p2 0 1, 0, 0, 0, 0, (fun _ => 0), (fun _ => 0), (fun _ => 0), (fun _ => 0), (fun _ => 0), (fun _ => 0), (fun _ => 0), (fun _ => 0), (fun _ => 0), (fun _ => 0), (fun _ => 0), (fun _ => 0), (fun _ => 0))) : wpY_init post p0 p1 p2 := by
  have B : ∀ z, post (z, fw_cl p1 4 16, fw_cl p2 0 1, 0, 0, 0, 0, (fun _ => 0), (fun _ => 0), (fun _ => 0), (fun _ => 0), (fun _ => 0), (fun _ => 0), (fun _ => 0), (fun _ => 0), (fun _ => 0), (fun _ => 0), (fun _ => 0), (fun _ => 0), (fun _ => 0)) → wY_init_130 post p1 p2 z 0 0 0 0 0 0 0 (fun _ => 0) (fun _ => 0) (fun _ => 0) (fun _ => 0) (fun _ => 0) (fun _ => 0) (fun _ => 0) (fun _ => 0) (fun _ => 0) (fun _ => 0) (fun _ => 0) (fun _ => 0) (fun _ => 0) := by
    intro z H
    rw [show fw_cl p1 4 16 = if 4 ≤ p1 then (if p1 ≤ 16 then p1 else 16) else 4 from rfl] at H
    refine br_c (fun a => br_c (fun b => ?_) (fun b => ?_)) (fun a => ?_)
    · rw [if_pos a, if_pos b] at H; exact fy_i155 H
    · rw [if_pos a, if_neg b] at H; exact fy_i155 H
    · rw [if_neg a] at H; exact fy_i155 H
  rw [show fw_cl p0 4 16 = if 4 ≤ p0 then (if p0 ≤ 16 then p0 else 16) else 4 from rfl] at H
  refine br_c (fun a => br_c (fun b => ?_) (fun b => ?_)) (fun a => ?_)
  · rw [if_pos a, if_pos b] at H; exact B _ H
  · rw [if_pos a, if_neg b] at H; exact B _ H
  · rw [if_neg a] at H; exact B _ H
theorem i_vc0 (k0 : Int32) (k1 : Int32) (k2 : Int32) : wpX_init (fun u => wpY_init (fun v => i_Rel 3 u v) k0 k1 k2) k0 k1 k2 := by
  unfold wpX_init
  refine fx_clamp (fx_clamp (fx_clamp (fy_init ?_)))
  obtain ⟨rc, hrc, e0⟩ := fw_cl16 k0
  obtain ⟨cc, hcc, e1⟩ := fw_cl16 k1
  rw [e0, e1]
  exact ⟨rc, cc, 0, 0, _, 0, 0, _, _, _, _, _, _, _, _, _, _, _, _, _, _, _, _, _, _, _, _, rfl, rfl, hrc, hcc, Nat.zero_le _, Nat.zero_le _, fw_R_0, fw_E_0⟩
end
