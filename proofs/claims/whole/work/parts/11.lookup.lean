theorem fw_ne1 {a : Nat} (h : a < 2 ^ 31) : ¬ nI a = -1 := by
  intro e
  have h9 : ¬ nI a < 0 := nI_pos h
  rw [e] at h9
  exact h9 (by decide)
theorem fw_20 (i : Nat) : 2 * nI i + 0 = nI (2 * i + 0) := by rw [Int32.add_zero]; exact pk_mul 2 i
theorem fw_21 (i : Nat) : 2 * nI i + 1 = nI (2 * i + 1) := (congrArg (· + 1) (pk_mul 2 i)).trans (nI_1 _)
theorem fw_h2 {i d : Nat} (hi : i < 16) (hd : d < 2) : nI (2 * i + d) / 2 = nI i := by
  have e : nI (2 * i + d) / 2 = nI ((2 * i + d) / 2) := pk_div (d := 2) (by omega) (by decide) (by decide)
  rw [e, show (2 * i + d) / 2 = i from by omega]
theorem fw_h1 {i d : Nat} (hi : i < 16) (hd : d < 2) : nI (2 * i + d) - nI (2 * i + d) / 2 * 2 = nI d := by
  have e : nI (2 * i + d) - nI (2 * i + d) / 2 * 2 = nI ((2 * i + d) % 2) := pk_rem (d := 2) (by omega) (by decide) (by decide)
  rw [e, show (2 * i + d) % 2 = d from by omega]
section LX
variable {rc cc da ck : Int32} {r pr ad po st ex nx : Nat → Int32} {n m : Nat}
theorem fx_so {post : Int32 → Prop} {a q p : Int32} (hm : m ≤ 16) (h1 : ∀ i, i < m → fw_key (fw_XT pr ad po st ex nx i) = (p, a, q) → post (nI i))
    (h2 : (∀ i, i < m → fw_key (fw_XT pr ad po st ex nx i) ≠ (p, a, q)) → post (-1)) :
    ∀ d i, i + d = m → (∀ j, j < i → fw_key (fw_XT pr ad po st ex nx j) ≠ (p, a, q)) → ∀ f, d < f → wX_slotOfOrigin_3 post a q p rc cc da (nI n) (nI m) ck r pr ad po st ex nx f (nI i) := by
  intro d
  induction d with
  | zero =>
    intro i hi hs f hf
    obtain ⟨f, rfl⟩ : ∃ g, f = g + 1 := ⟨f - 1, by omega⟩
    exact br_t (nI_le (by omega) (by omega)) (h2 (fun j z => hs j (by omega)))
  | succ d ih =>
    intro i hi hs f hf
    obtain ⟨f, rfl⟩ : ∃ g, f = g + 1 := ⟨f - 1, by omega⟩
    have v : vp_in (nI i) 16 := vp_in_nI (by omega) (by decide)
    have N : fw_key (fw_XT pr ad po st ex nx i) ≠ (p, a, q) → wX_slotOfOrigin_3 post a q p rc cc da (nI n) (nI m) ck r pr ad po st ex nx f (nI (i + 1)) := fun c => ih (i + 1) (by omega) (fun j z => by
      by_cases y : j = i
      · rw [y]; exact c
      · exact hs j (by omega)) f (by omega)
    rw [wX_slotOfOrigin_3]
    dsimp only
    rw [nI_clamp (n := i) (by omega)]
    refine br_f (nI_ge (by omega) (by omega)) ⟨v, br_c (fun e1 => ⟨v, br_c (fun e2 => ⟨v, br_c (fun e3 => h1 i (by omega) ?_) (fun e3 => nm_r (nI_1 i) (N (fun z => e3 (congrArg (fun t => t.1) z))))⟩) (fun e2 => nm_r (nI_1 i) (N (fun z => e2 (congrArg (fun t => t.2.2) z))))⟩) (fun e1 => nm_r (nI_1 i) (N (fun z => e1 (congrArg (fun t => t.2.1) z))))⟩
    show (pr i, ad i, po i) = (p, a, q)
    rw [e1, e2, e3]
theorem fx_slot {post : Int32 → Prop} {a q p : Int32} (hm : m ≤ 16) (h1 : ∀ i, i < m → fw_key (fw_XT pr ad po st ex nx i) = (p, a, q) → post (nI i))
    (h2 : (∀ i, i < m → fw_key (fw_XT pr ad po st ex nx i) ≠ (p, a, q)) → post (-1)) : wpX_slotOfOrigin post (rc, cc, da, nI n, nI m, ck, r, pr, ad, po, st, ex, nx) a q p :=
  ⟨m + 1, fx_so hm h1 h2 m 0 (by omega) (fun j z => absurd z (Nat.not_lt_zero _)) (m + 1) (by omega)⟩
theorem fx_swapPair {post : Int32 → Prop} {a : Nat} (ha : a < 256) (H : post (nI (fw_sw a))) : wpX_swapPair post (nI a) := by
  unfold wpX_swapPair
  have e1 : nI a - nI a / 16 * 16 = nI (a % 16) := pk_rem (d := 16) (by omega) (by decide) (by decide)
  have e2 : nI a / 16 = nI (a / 16) := pk_div (d := 16) (by omega) (by decide) (by decide)
  have e3 : (16 : Int32) * nI (a % 16) = nI (16 * (a % 16)) := pk_mul 16 (a % 16)
  rw [e1, e2, e3, nI_add]
  exact ⟨by decide, by decide, H⟩
theorem fx_lookup {post : Int32 → Prop} {p : Int32} {a q : Nat} (hm : m ≤ 16) (ha : a < 256) (hq : q < 256)
    (h1 : ∀ i d, fw_F (fw_XT pr ad po st ex nx) m p a q i d → post (nI (2 * i + d))) (h2 : fw_none (fw_XT pr ad po st ex nx) m p a q → post (-1)) :
    wpX_lookup post (rc, cc, da, nI n, nI m, ck, r, pr, ad, po, st, ex, nx) (nI a) (nI q) p := by
  unfold wpX_lookup
  dsimp only
  refine fx_slot hm (fun i hi hk => br_f (fw_ne1 (by omega)) ?_) (fun hn => br_t rfl (fx_swapPair ha (fx_swapPair hq (fx_slot hm (fun i hi hk => br_f (fw_ne1 (by omega)) ?_) (fun hn' => br_t rfl (h2 ?_))))))
  · rw [fw_20]
    exact h1 i 0 ⟨hi, by decide, hk.trans fw_K0.symm, fun e z => absurd z (Nat.not_lt_zero _)⟩
  · rw [fw_21]
    refine h1 i 1 ⟨hi, by decide, hk.trans fw_K1.symm, fun e z j hj => ?_⟩
    have e0 : e = 0 := by omega
    rw [e0, fw_K0]
    exact hn j hj
  · intro e z j hj
    have e0 : e = 0 ∨ e = 1 := by omega
    rcases e0 with e0 | e0
    · rw [e0, fw_K0]; exact hn j hj
    · rw [e0, fw_K1]; exact hn' j hj
end LX
section LY
variable {rc cc da ck fd : Int32} {rS rD rP rA pr ad po st ex nx cp cs ct cd cu cst cx cn0 cn1 : Nat → Int32} {n m : Nat}
theorem fy_l86 {post : Int32 → SY → Prop} {x1 x2 x3 x4 x5 : Int32} (hm : m ≤ 16) (h1 : ∀ j, j < m → (cp j = x1 ∧ cs j = x4 ∧ ct j = x5 ∧ cd j = x2 ∧ cu j = x3) → post (nI j) (rc, cc, da, nI n, nI m, ck, 1, rS, rD, rP, rA, cp, cs, ct, cd, cu, cst, cx, cn0, cn1))
    (h2 : (∀ j, j < m → ¬ (cp j = x1 ∧ cs j = x4 ∧ ct j = x5 ∧ cd j = x2 ∧ cu j = x3)) → post (-1) (rc, cc, da, nI n, nI m, ck, fd, rS, rD, rP, rA, cp, cs, ct, cd, cu, cst, cx, cn0, cn1)) :
    ∀ d i, i + d = m → (∀ j, j < i → ¬ (cp j = x1 ∧ cs j = x4 ∧ ct j = x5 ∧ cd j = x2 ∧ cu j = x3)) → ∀ f, d < f → wY_lookup_86 post x1 x2 x3 x4 x5 rc cc da (nI n) (nI m) ck fd rS rD rP rA cp cs ct cd cu cst cx cn0 cn1 f (nI i) := by
  intro d
  induction d with
  | zero =>
    intro i hi hs f hf
    obtain ⟨f, rfl⟩ : ∃ g, f = g + 1 := ⟨f - 1, by omega⟩
    exact br_t (nI_le (by omega) (by omega)) (h2 (fun j z => hs j (by omega)))
  | succ d ih =>
    intro i hi hs f hf
    obtain ⟨f, rfl⟩ : ∃ g, f = g + 1 := ⟨f - 1, by omega⟩
    have v : vp_in (nI i) 16 := vp_in_nI (by omega) (by decide)
    have N : ¬ (cp i = x1 ∧ cs i = x4 ∧ ct i = x5 ∧ cd i = x2 ∧ cu i = x3) → wY_lookup_86 post x1 x2 x3 x4 x5 rc cc da (nI n) (nI m) ck fd rS rD rP rA cp cs ct cd cu cst cx cn0 cn1 f (nI (i + 1)) := fun c => ih (i + 1) (by omega) (fun j z => by
      by_cases y : j = i
      · rw [y]; exact c
      · exact hs j (by omega)) f (by omega)
    rw [wY_lookup_86]
    dsimp only
    rw [nI_clamp (n := i) (by omega)]
    exact br_f (nI_ge (by omega) (by omega)) ⟨v, br_c (fun e1 => ⟨v, br_c (fun e2 => ⟨v, br_c (fun e3 => ⟨v, br_c (fun e4 => ⟨v, br_c (fun e5 => h1 i (by omega) ⟨e1, e2, e3, e4, e5⟩)
      (fun e => nm_r (nI_1 i) (N (fun z => e z.2.2.2.2)))⟩) (fun e => nm_r (nI_1 i) (N (fun z => e z.2.2.2.1)))⟩) (fun e => nm_r (nI_1 i) (N (fun z => e z.2.2.1)))⟩) (fun e => nm_r (nI_1 i) (N (fun z => e z.2.1)))⟩) (fun e => nm_r (nI_1 i) (N (fun z => e z.1)))⟩
theorem fy_l3 {post : Int32 → SY → Prop} {x1 x2 x3 x4 x5 : Int32} (hm : m ≤ 16) (h1 : ∀ j, j < m → (cp j = x1 ∧ cs j = x2 ∧ ct j = x3 ∧ cd j = x4 ∧ cu j = x5) → post (nI j) (rc, cc, da, nI n, nI m, ck, 0, rS, rD, rP, rA, cp, cs, ct, cd, cu, cst, cx, cn0, cn1))
    (h2 : (∀ j, j < m → ¬ (cp j = x1 ∧ cs j = x2 ∧ ct j = x3 ∧ cd j = x4 ∧ cu j = x5)) → ∃ f : Nat, wY_lookup_86 post x1 x2 x3 x4 x5 rc cc da (nI n) (nI m) ck fd rS rD rP rA cp cs ct cd cu cst cx cn0 cn1 f 0) :
    ∀ d i, i + d = m → (∀ j, j < i → ¬ (cp j = x1 ∧ cs j = x2 ∧ ct j = x3 ∧ cd j = x4 ∧ cu j = x5)) → ∀ f, d < f → wY_lookup_3 post x1 x2 x3 x4 x5 rc cc da (nI n) (nI m) ck fd rS rD rP rA cp cs ct cd cu cst cx cn0 cn1 f (nI i) := by
  intro d
  induction d with
  | zero =>
    intro i hi hs f hf
    obtain ⟨f, rfl⟩ : ∃ g, f = g + 1 := ⟨f - 1, by omega⟩
    exact br_t (nI_le (by omega) (by omega)) (h2 (fun j z => hs j (by omega)))
  | succ d ih =>
    intro i hi hs f hf
    obtain ⟨f, rfl⟩ : ∃ g, f = g + 1 := ⟨f - 1, by omega⟩
    have v : vp_in (nI i) 16 := vp_in_nI (by omega) (by decide)
    have N : ¬ (cp i = x1 ∧ cs i = x2 ∧ ct i = x3 ∧ cd i = x4 ∧ cu i = x5) → wY_lookup_3 post x1 x2 x3 x4 x5 rc cc da (nI n) (nI m) ck fd rS rD rP rA cp cs ct cd cu cst cx cn0 cn1 f (nI (i + 1)) := fun c => ih (i + 1) (by omega) (fun j z => by
      by_cases y : j = i
      · rw [y]; exact c
      · exact hs j (by omega)) f (by omega)
    rw [wY_lookup_3]
    dsimp only
    rw [nI_clamp (n := i) (by omega)]
    exact br_f (nI_ge (by omega) (by omega)) ⟨v, br_c (fun e1 => ⟨v, br_c (fun e2 => ⟨v, br_c (fun e3 => ⟨v, br_c (fun e4 => ⟨v, br_c (fun e5 => h1 i (by omega) ⟨e1, e2, e3, e4, e5⟩)
      (fun e => nm_r (nI_1 i) (N (fun z => e z.2.2.2.2)))⟩) (fun e => nm_r (nI_1 i) (N (fun z => e z.2.2.2.1)))⟩) (fun e => nm_r (nI_1 i) (N (fun z => e z.2.2.1)))⟩) (fun e => nm_r (nI_1 i) (N (fun z => e z.2.1)))⟩) (fun e => nm_r (nI_1 i) (N (fun z => e z.1)))⟩
theorem fw_P0 {p : Int32} {a q j : Nat} (E : fw_E (fw_L (fw_XT pr ad po st ex nx) m) (fw_L (fw_YT cp cs ct cd cu cst cx cn0 cn1) m)) (hj : j < m) (ha : a < 256) (hq : q < 256) :
    fw_key (fw_g (fw_YT cp cs ct cd cu cst cx cn0 cn1 j)) = fw_K p a q 0 ↔ (cp j = p ∧ cs j = nI (a % 16) ∧ ct j = nI (q % 16) ∧ cd j = nI (a / 16) ∧ cu j = nI (q / 16)) := by
  rw [fw_K0]
  exact fw_kg (fw_oky E hj) ha hq
theorem fw_P1 {p : Int32} {a q j : Nat} (E : fw_E (fw_L (fw_XT pr ad po st ex nx) m) (fw_L (fw_YT cp cs ct cd cu cst cx cn0 cn1) m)) (hj : j < m) (ha : a < 256) (hq : q < 256) :
    fw_key (fw_g (fw_YT cp cs ct cd cu cst cx cn0 cn1 j)) = fw_K p a q 1 ↔ (cp j = p ∧ cs j = nI (a / 16) ∧ ct j = nI (q / 16) ∧ cd j = nI (a % 16) ∧ cu j = nI (q % 16)) := by
  rw [fw_K1]
  have h := fw_kg (p := p) (fw_oky E hj) (fw_swlt ha) (fw_swlt hq) (st := cst j) (ex := cx j) (n0 := cn0 j) (n1 := cn1 j) (pr := cp j)
  rw [fw_swlo ha, fw_swlo hq, fw_swhi ha, fw_swhi hq] at h
  exact h
theorem fy_lkF {post : Int32 → SY → Prop} {p : Int32} {a q i d : Nat} (E : fw_E (fw_L (fw_XT pr ad po st ex nx) m) (fw_L (fw_YT cp cs ct cd cu cst cx cn0 cn1) m)) (hm : m ≤ 16) (ha : a < 256) (hq : q < 256)
    (F : fw_F (fw_XT pr ad po st ex nx) m p a q i d) (H : ∀ j, j < m → fw_g (fw_YT cp cs ct cd cu cst cx cn0 cn1 j) = fw_XT pr ad po st ex nx i → post (nI j) (rc, cc, da, nI n, nI m, ck, nI d, rS, rD, rP, rA, cp, cs, ct, cd, cu, cst, cx, cn0, cn1)) :
    wpY_lookup post (rc, cc, da, nI n, nI m, ck, fd, rS, rD, rP, rA, cp, cs, ct, cd, cu, cst, cx, cn0, cn1) p (nI (a % 16)) (nI (q % 16)) (nI (a / 16)) (nI (q / 16)) := by
  have F' := F
  obtain ⟨hi, hd, hk, hno⟩ := F'
  obtain ⟨j0, hj0, hk0⟩ := fw_has E hi
  rw [hk] at hk0
  have hd2 : d = 0 ∨ d = 1 := by omega
  refine ⟨m + 1, fy_l3 hm (fun j hj c => ?_) (fun c => ⟨m + 1, fy_l86 hm (fun j hj c' => ?_) (fun c' => ?_) m 0 (by omega) (fun j z => absurd z (Nat.not_lt_zero _)) (m + 1) (by omega)⟩) m 0 (by omega) (fun j z => absurd z (Nat.not_lt_zero _)) (m + 1) (by omega)⟩
  · have h0 := (fw_P0 E hj ha hq).mpr c
    rcases hd2 with e | e
    · subst e
      exact H j hj (fw_found E F hj h0)
    · subst e
      obtain ⟨i', hi', e'⟩ := fw_hasY E hj
      exact absurd (e'.trans h0) (hno 0 (by decide) i' hi')
  · rcases hd2 with e | e
    · subst e
      exact absurd ((fw_P0 E hj0 ha hq).mp hk0) (c j0 hj0)
    · subst e
      exact H j hj (fw_found E F hj ((fw_P1 E hj ha hq).mpr c'))
  · rcases hd2 with e | e
    · subst e
      exact absurd ((fw_P0 E hj0 ha hq).mp hk0) (c j0 hj0)
    · subst e
      exact absurd ((fw_P1 E hj0 ha hq).mp hk0) (c' j0 hj0)
theorem fy_lkN {post : Int32 → SY → Prop} {p : Int32} {a q : Nat} (E : fw_E (fw_L (fw_XT pr ad po st ex nx) m) (fw_L (fw_YT cp cs ct cd cu cst cx cn0 cn1) m)) (hm : m ≤ 16) (ha : a < 256) (hq : q < 256)
    (F : fw_none (fw_XT pr ad po st ex nx) m p a q) (H : post (-1) (rc, cc, da, nI n, nI m, ck, fd, rS, rD, rP, rA, cp, cs, ct, cd, cu, cst, cx, cn0, cn1)) :
    wpY_lookup post (rc, cc, da, nI n, nI m, ck, fd, rS, rD, rP, rA, cp, cs, ct, cd, cu, cst, cx, cn0, cn1) p (nI (a % 16)) (nI (q % 16)) (nI (a / 16)) (nI (q / 16)) := by
  refine ⟨m + 1, fy_l3 hm (fun j hj c => ?_) (fun c => ⟨m + 1, fy_l86 hm (fun j hj c' => ?_) (fun c' => H) m 0 (by omega) (fun j z => absurd z (Nat.not_lt_zero _)) (m + 1) (by omega)⟩) m 0 (by omega) (fun j z => absurd z (Nat.not_lt_zero _)) (m + 1) (by omega)⟩
  · obtain ⟨i', hi', e'⟩ := fw_hasY E hj
    exact absurd (e'.trans ((fw_P0 E hj ha hq).mpr c)) (F 0 (by decide) i' hi')
  · obtain ⟨i', hi', e'⟩ := fw_hasY E hj
    exact absurd (e'.trans ((fw_P1 E hj ha hq).mpr c')) (F 1 (by decide) i' hi')
end LY
