/-- the rules against tuple number t of the rule domain -/
def fw_Mt (rS rD rP rA : Nat → Int32) (t : Nat) : Nat → Bool := fw_M rS rD rP rA (nI (t % 16)) (nI (t / 16 % 16)) (nI (t / 256 % 16)) (nI (t / 4096))
theorem fw_ix_eq {v n k : Nat} (hn : n ≤ 16) (hk : k < n) : fw_ix v n = nI k ↔ v = k := by
  unfold fw_ix
  by_cases h : v < n
  · rw [if_pos h]; exact nI_eq (by omega) (by omega)
  · rw [if_neg h]
    constructor
    · intro z
      have h9 : ¬ nI k < 0 := nI_pos (by omega)
      rw [← z] at h9
      exact absurd (by decide) h9
    · intro z; omega
theorem fw_rn {x : Int32} {n : Nat} (hn : n ≤ 16) (a : ¬ x < 0) (c : x < nI n) : fw_r n x := by
  obtain ⟨j, hj, rfl⟩ := nI_of a
  rw [nI_ltI hj (by omega)] at c
  exact ⟨j, c, rfl⟩
theorem fw_sh0 {r rS rD rP rA : Nat → Int32} {n : Nat} (R : fw_R r rS rD rP rA n) (h0 : 0 < n) : ∃ t, t < 8192 ∧ fw_ff (fw_Mt rS rD rP rA t) n 0 = 0 := by
  obtain ⟨_, _, _, _, ⟨a, ha, ea⟩, ⟨b, hb, eb⟩, ⟨c, hc, ec⟩, h4, ⟨d, hd, ed⟩, h6⟩ := R 0 h0
  have q2 : d % 4 = 2 ∨ d % 4 = 0 ∨ d % 4 = 1 := by
    rw [ed, show nI d &&& 3 = nI (d % 4) from pk_andN (by omega) 2 (by decide)] at h6
    have h7 : d % 4 ≠ 3 := fun z => h6 (by rw [z]; rfl)
    omega
  obtain ⟨e, he, q3⟩ : ∃ e : Nat, e < 2 ∧ fw_pp (rA 0) (nI e) = true := by
    unfold fw_pp
    rw [ed, show nI d &&& 3 = nI (d % 4) from pk_andN (by omega) 2 (by decide)]
    rcases q2 with z | z | z
    · exact ⟨0, by decide, by rw [z]; rfl⟩
    · exact ⟨0, by decide, by rw [z]; rfl⟩
    · exact ⟨1, by decide, by rw [z]; rfl⟩
  refine ⟨a % 16 + 16 * (b % 16) + 256 * (c % 16) + 4096 * e, by omega, (fw_ff_iff _ h0).mpr ⟨?_, fun j hj => absurd hj (Nat.not_lt_zero _)⟩⟩
  unfold fw_Mt fw_M fw_m
  have e1 : (a % 16 + 16 * (b % 16) + 256 * (c % 16) + 4096 * e) % 16 = a % 16 := by omega
  have e2 : (a % 16 + 16 * (b % 16) + 256 * (c % 16) + 4096 * e) / 16 % 16 = b % 16 := by omega
  have e3 : (a % 16 + 16 * (b % 16) + 256 * (c % 16) + 4096 * e) / 256 % 16 = c % 16 := by omega
  have e4 : (a % 16 + 16 * (b % 16) + 256 * (c % 16) + 4096 * e) / 4096 = e := by omega
  rw [e1, e2, e3, e4, q3]
  have p1 : fw_pm (rS 0) (nI (a % 16)) = true := by
    unfold fw_pm
    rw [ea, fw_lo (a := a) (by omega)]
    exact decide_eq_true rfl
  have p2 : fw_pm (rD 0) (nI (b % 16)) = true := by
    unfold fw_pm
    rw [eb, fw_lo (a := b) (by omega)]
    exact decide_eq_true rfl
  have p3 : fw_pq (rP 0) (nI (c % 16)) = true := by
    unfold fw_pq
    rw [ec, fw_lo (a := c) (by omega)] at h4
    rw [ec, fw_lo (a := c) (by omega), decide_eq_true h4, decide_eq_true (Int32.le_refl _)]
    rfl
  rw [p1, p2, p3]
  rfl
section DX
variable {rc cc da ck : Int32} {r pr ad po st ex nx rS rD rP rA : Nat → Int32} {n m : Nat}
theorem fx_fmt {post : Int32 → Prop} {t : Nat} {L : Int32} (R : fw_R r rS rD rP rA n) (hn : n ≤ 16) (ht : t < 8192)
    (H : post (fw_ix (fw_ff (fw_lo1 L (fw_Mt rS rD rP rA t)) n 0) n)) : wpX_firstMatchOfTuple post (rc, cc, da, nI n, nI m, ck, r, pr, ad, po, st, ex, nx) (nI t) L := by
  unfold wpX_firstMatchOfTuple
  dsimp only
  have e1 : nI t - nI t / 256 * 256 = nI (t % 256) := pk_rem (d := 256) (by omega) (by decide) (by decide)
  have e2 : nI t / 256 = nI (t / 256) := pk_div (d := 256) (by omega) (by decide) (by decide)
  have e3 : nI (t / 256) - nI (t / 256) / 16 * 16 = nI (t / 256 % 16) := pk_rem (d := 16) (by omega) (by decide) (by decide)
  have e4 : nI t / 4096 = nI (t / 4096) := pk_div (d := 4096) (by omega) (by decide) (by decide)
  rw [e1, e2, e3, e4]
  refine ⟨by decide, nm_e ⟨by decide, by decide, nm_e ⟨by decide, nm_e (fx_firstMatch R hn (by omega) ?_)⟩⟩⟩
  have h1 : t % 256 % 16 = t % 16 := by omega
  have h2 : t % 256 / 16 = t / 16 % 16 := by omega
  rw [h1, h2]
  exact H
theorem fx_sh {post : Int32 → Prop} {k : Nat} (R : fw_R r rS rD rP rA n) (hn : n ≤ 16) (hk : k < n)
    (h0 : (∃ t, t < 8192 ∧ fw_ff (fw_Mt rS rD rP rA t) n 0 = k) → post 0) (h1 : (∀ t, t < 8192 → fw_ff (fw_Mt rS rD rP rA t) n 0 ≠ k) → post 1) :
    ∀ d t, t + d = 8192 → (∀ s, s < t → fw_ff (fw_Mt rS rD rP rA s) n 0 ≠ k) → ∀ f, d < f → wX_shadowed_12 post (nI k) rc cc da (nI n) (nI m) ck r pr ad po st ex nx f (nI t) := by
  intro d
  induction d with
  | zero =>
    intro t ht hs f hf
    obtain ⟨f, rfl⟩ : ∃ g, f = g + 1 := ⟨f - 1, by omega⟩
    exact br_t (nI_le (a := 8192) (by omega) (by omega)) (h1 (fun s z => hs s (by omega)))
  | succ d ih =>
    intro t ht hs f hf
    obtain ⟨f, rfl⟩ : ∃ g, f = g + 1 := ⟨f - 1, by omega⟩
    refine br_f (nI_ge (b := 8192) (by omega) (by decide)) (fx_fmt R hn (by omega) ?_)
    rw [fw_lo1_m hn]
    refine br_c (fun e => h0 ⟨t, by omega, (fw_ix_eq hn hk).mp e⟩) (fun e => nm_r (nI_1 t) (ih (t + 1) (by omega) (fun s z => ?_) f (by omega)))
    by_cases y : s = t
    · rw [y]; exact fun c => e ((fw_ix_eq hn hk).mpr c)
    · exact hs s (by omega)
theorem fx_rd {post : Int32 → Prop} {k : Nat} (R : fw_R r rS rD rP rA n) (hn : n ≤ 16)
    (h0 : (∃ t, t < 8192 ∧ ¬ fw_ac (fw_ff (fw_lo1 (-1) (fw_Mt rS rD rP rA t)) n 0) n rA da = fw_ac (fw_ff (fw_lo1 (nI k) (fw_Mt rS rD rP rA t)) n 0) n rA da) → post 0)
    (h1 : (∀ t, t < 8192 → fw_ac (fw_ff (fw_lo1 (-1) (fw_Mt rS rD rP rA t)) n 0) n rA da = fw_ac (fw_ff (fw_lo1 (nI k) (fw_Mt rS rD rP rA t)) n 0) n rA da) → post 1) :
    ∀ d t, t + d = 8192 → (∀ s, s < t → fw_ac (fw_ff (fw_lo1 (-1) (fw_Mt rS rD rP rA s)) n 0) n rA da = fw_ac (fw_ff (fw_lo1 (nI k) (fw_Mt rS rD rP rA s)) n 0) n rA da) → ∀ f, d < f → wX_redundant_12 post (nI k) rc cc da (nI n) (nI m) ck r pr ad po st ex nx f (nI t) := by
  intro d
  induction d with
  | zero =>
    intro t ht hs f hf
    obtain ⟨f, rfl⟩ : ∃ g, f = g + 1 := ⟨f - 1, by omega⟩
    exact br_t (nI_le (a := 8192) (by omega) (by omega)) (h1 (fun s z => hs s (by omega)))
  | succ d ih =>
    intro t ht hs f hf
    obtain ⟨f, rfl⟩ : ∃ g, f = g + 1 := ⟨f - 1, by omega⟩
    refine br_f (nI_ge (b := 8192) (by omega) (by decide)) (fx_fmt R hn (by omega) (fx_fmt R hn (by omega) (fx_actionOf R hn (fx_actionOf R hn (br_c (fun e => nm_r (nI_1 t) (ih (t + 1) (by omega) (fun s z => ?_) f (by omega))) (fun e => h0 ⟨t, by omega, e⟩))))))
    by_cases y : s = t
    · rw [y]; exact e
    · exact hs s (by omega)
end DX
section DY
variable {rc cc da ck fd : Int32} {rS rD rP rA cp cs ct cd cu cst cx cn0 cn1 : Nat → Int32} {n m : Nat}
theorem fw_t1 {t : Nat} (ht : t < 8192) : nI t &&& 15 = nI (t % 16) := fw_lo (by omega)
theorem fw_t2 {t : Nat} (ht : t < 8192) : (nI t >>> ((4 : Int32) &&& 31)) &&& 15 = nI (t / 16 % 16) := by rw [fw_hi (by omega), fw_lo (by omega)]
theorem fw_t3 {t : Nat} (ht : t < 8192) : (nI t >>> ((8 : Int32) &&& 31)) &&& 15 = nI (t / 256 % 16) := by
  have e : nI t >>> ((8 : Int32) &&& 31) = nI (t / 256) := pk_shrN (by omega) _ 8 (by decide)
  rw [e, fw_lo (by omega)]
theorem fw_t4 {t : Nat} (ht : t < 8192) : nI t >>> ((12 : Int32) &&& 31) = nI (t / 4096) := pk_shrN (by omega) _ 12 (by decide)
theorem fy_cov {post : Int32 → Prop} {J : Int32 → Prop} {k t : Nat} {a b c d0 : Int32} (hk : k ≤ 16)
    (hA : (∀ i, i < k → fw_M rS rD rP rA a b c d0 i = false) → post 0) (hB : (∃ i, i < k ∧ fw_M rS rD rP rA a b c d0 i = true) → J (nI (t + 1))) :
    ∀ d j, j + d = k → (∀ i, i < j → fw_M rS rD rP rA a b c d0 i = false) → ∀ f, d < f → wY_shadowed_78 post J (nI k) (nI t) a b c d0 0 rc cc da (nI n) (nI m) ck fd rS rD rP rA cp cs ct cd cu cst cx cn0 cn1 f (nI j) := by
  intro d
  induction d with
  | zero =>
    intro j hj hs f hf
    obtain ⟨f, rfl⟩ : ∃ g, f = g + 1 := ⟨f - 1, by omega⟩
    exact br_t (nI_le (by omega) (by omega)) (br_t rfl (hA (fun i z => hs i (by omega))))
  | succ d ih =>
    intro j hj hs f hf
    obtain ⟨f, rfl⟩ : ∃ g, f = g + 1 := ⟨f - 1, by omega⟩
    refine br_f (nI_ge (by omega) (by omega)) (fy_matches (by omega) (fw_br (fun e => nm_r (nI_1 j) (ih (j + 1) (by omega) (fun i z => ?_) f (by omega))) (fun e => br_f (by decide) (nm_r (nI_1 t) (hB ⟨j, by omega, e⟩)))))
    by_cases y : i = j
    · rw [y]; exact e
    · exact hs i (by omega)
theorem fy_sh {post : Int32 → Prop} {k : Nat} (hn : n ≤ 16) (hk : k < n)
    (h0 : (∃ t, t < 8192 ∧ fw_ff (fw_Mt rS rD rP rA t) n 0 = k) → post 0) (h1 : (∀ t, t < 8192 → fw_ff (fw_Mt rS rD rP rA t) n 0 ≠ k) → post 1) :
    ∀ d t, t + d = 8192 → (∀ s, s < t → fw_ff (fw_Mt rS rD rP rA s) n 0 ≠ k) → ∀ f, d < f → wY_shadowed_22 post (nI k) rc cc da (nI n) (nI m) ck fd rS rD rP rA cp cs ct cd cu cst cx cn0 cn1 f (nI t) := by
  intro d
  induction d with
  | zero =>
    intro t ht hs f hf
    obtain ⟨f, rfl⟩ : ∃ g, f = g + 1 := ⟨f - 1, by omega⟩
    exact br_t (nI_le (a := 8192) (by omega) (by omega)) (h1 (fun s z => hs s (by omega)))
  | succ d ih =>
    intro t ht hs f hf
    obtain ⟨f, rfl⟩ : ∃ g, f = g + 1 := ⟨f - 1, by omega⟩
    have N : fw_ff (fw_Mt rS rD rP rA t) n 0 ≠ k → ∀ g, d < g → wY_shadowed_22 post (nI k) rc cc da (nI n) (nI m) ck fd rS rD rP rA cp cs ct cd cu cst cx cn0 cn1 g (nI (t + 1)) := fun c => ih (t + 1) (by omega) (fun s z => by
      by_cases y : s = t
      · rw [y]; exact c
      · exact hs s (by omega))
    refine br_f (nI_ge (b := 8192) (by omega) (by decide)) (nm_r (fw_t1 (by omega)) (nm_r (fw_t2 (by omega)) (nm_r (fw_t3 (by omega)) (nm_r (fw_t4 (by omega)) (fy_matches (by omega) (fw_br (fun e => nm_r (nI_1 t) (N (fun c => ?_) f (by omega))) (fun e => ⟨k + 1, fy_cov (by omega) (fun c => ?_) (fun ⟨i, hi, c⟩ => N (fun z => ?_) f (by omega)) k 0 (by omega) (fun i z => absurd z (Nat.not_lt_zero _)) (k + 1) (by omega)⟩)))))))
    · have z := ((fw_ff_iff _ hk).mp c).1
      exact absurd (z.symm.trans e) (by decide)
    · exact h0 ⟨t, by omega, (fw_ff_iff _ hk).mpr ⟨e, c⟩⟩
    · have y := ((fw_ff_iff _ hk).mp z).2 i hi
      exact absurd (y.symm.trans c) (by decide)
theorem fy_rd {post : Int32 → Prop} {k : Nat} (hn : n ≤ 16)
    (h0 : (∃ t, t < 8192 ∧ ¬ fw_ac (fw_ff (fw_lo1 (-1) (fw_Mt rS rD rP rA t)) n 0) n rA da = fw_ac (fw_ff (fw_lo1 (nI k) (fw_Mt rS rD rP rA t)) n 0) n rA da) → post 0)
    (h1 : (∀ t, t < 8192 → fw_ac (fw_ff (fw_lo1 (-1) (fw_Mt rS rD rP rA t)) n 0) n rA da = fw_ac (fw_ff (fw_lo1 (nI k) (fw_Mt rS rD rP rA t)) n 0) n rA da) → post 1) :
    ∀ d t, t + d = 8192 → (∀ s, s < t → fw_ac (fw_ff (fw_lo1 (-1) (fw_Mt rS rD rP rA s)) n 0) n rA da = fw_ac (fw_ff (fw_lo1 (nI k) (fw_Mt rS rD rP rA s)) n 0) n rA da) → ∀ f, d < f → wY_redundant_16 post (nI k) rc cc da (nI n) (nI m) ck fd rS rD rP rA cp cs ct cd cu cst cx cn0 cn1 f (nI t) := by
  intro d
  induction d with
  | zero =>
    intro t ht hs f hf
    obtain ⟨f, rfl⟩ : ∃ g, f = g + 1 := ⟨f - 1, by omega⟩
    exact br_t (nI_le (a := 8192) (by omega) (by omega)) (h1 (fun s z => hs s (by omega)))
  | succ d ih =>
    intro t ht hs f hf
    obtain ⟨f, rfl⟩ : ∃ g, f = g + 1 := ⟨f - 1, by omega⟩
    refine br_f (nI_ge (b := 8192) (by omega) (by decide)) (nm_r (fw_t1 (by omega)) (nm_r (fw_t2 (by omega)) (nm_r (fw_t3 (by omega)) (nm_r (fw_t4 (by omega)) (fy_decide hn (fy_decide hn (br_c (fun e => nm_r (nI_1 t) (ih (t + 1) (by omega) (fun s z => ?_) f (by omega))) (fun e => h0 ⟨t, by omega, e⟩))))))))
    by_cases y : s = t
    · rw [y]; exact e
    · exact hs s (by omega)
end DY
theorem i_vc_shadowed {k : Nat} {u : SX} {v : SY} (I : i_Rel k u v) (hk : k + 5 ≤ 2563) (v1 : Int32) : wpX_shadowed (fun r => wpY_shadowed (fun r' => r' = r ∧ i_Rel (k + 5) u v) v v1) u v1 := by
  have I' := I
  obtain ⟨rc, cc, n, m, da, ck, fd, r, pr, ad, po, st, ex, nx, rS, rD, rP, rA, cp, cs, ct, cd, cu, cst, cx, cn0, cn1, rfl, rfl, hrc, hcc, hnr, hmc, R, E⟩ := I
  have hn : n ≤ 16 := by omega
  unfold wpX_shadowed wpY_shadowed
  dsimp only
  refine fx_holdsRule (fw_br (fun b => ?_) (fun b => ?_))
  · refine br_c (fun _ => ⟨rfl, I'⟩) (fun a => br_c (fun c => ?_) (fun _ => ⟨rfl, I'⟩))
    exact absurd ((fw_in_n hn).mpr (fw_rn hn a c)) (by rw [b]; decide)
  · obtain ⟨j, hj, rfl⟩ := (fw_in_n hn).mp b
    refine ⟨8193, fx_sh R hn hj (fun h => ?_) (fun h => ?_) 8192 0 (by omega) (fun s z => absurd z (Nat.not_lt_zero _)) 8193 (by omega)⟩
    · refine br_f (nI_pos (by omega)) (br_t (nI_lt hj (by omega)) (br_c (fun _ => ⟨rfl, I'⟩) (fun _ => ⟨8193, fy_sh hn hj (fun _ => ⟨rfl, I'⟩) (fun c => ?_) 8192 0 (by omega) (fun s z => absurd z (Nat.not_lt_zero _)) 8193 (by omega)⟩)))
      obtain ⟨t, ht, e⟩ := h
      exact absurd e (c t ht)
    · refine br_f (nI_pos (by omega)) (br_t (nI_lt hj (by omega)) (br_c (fun z => ?_) (fun _ => ⟨8193, fy_sh hn hj (fun c => ?_) (fun _ => ⟨rfl, I'⟩) 8192 0 (by omega) (fun s z => absurd z (Nat.not_lt_zero _)) 8193 (by omega)⟩)))
      · have e0 : j = 0 := (nI_eq (b := 0) (by omega) (by decide)).mp z
        subst e0
        obtain ⟨t, ht, e⟩ := fw_sh0 R hj
        exact absurd e (h t ht)
      · obtain ⟨t, ht, e⟩ := c
        exact absurd e (h t ht)
theorem i_vc_redundant {k : Nat} {u : SX} {v : SY} (I : i_Rel k u v) (hk : k + 5 ≤ 2563) (v1 : Int32) : wpX_redundant (fun r => wpY_redundant (fun r' => r' = r ∧ i_Rel (k + 5) u v) v v1) u v1 := by
  have I' := I
  obtain ⟨rc, cc, n, m, da, ck, fd, r, pr, ad, po, st, ex, nx, rS, rD, rP, rA, cp, cs, ct, cd, cu, cst, cx, cn0, cn1, rfl, rfl, hrc, hcc, hnr, hmc, R, E⟩ := I
  have hn : n ≤ 16 := by omega
  unfold wpX_redundant wpY_redundant
  dsimp only
  refine fx_holdsRule (fw_br (fun b => ?_) (fun b => ?_))
  · refine br_c (fun _ => ⟨rfl, I'⟩) (fun a => br_c (fun c => ?_) (fun _ => ⟨rfl, I'⟩))
    exact absurd ((fw_in_n hn).mpr (fw_rn hn a c)) (by rw [b]; decide)
  · obtain ⟨j, hj, rfl⟩ := (fw_in_n hn).mp b
    refine ⟨8193, fx_rd R hn (fun h => ?_) (fun h => ?_) 8192 0 (by omega) (fun s z => absurd z (Nat.not_lt_zero _)) 8193 (by omega)⟩
    · refine br_f (nI_pos (by omega)) (br_t (nI_lt hj (by omega)) ⟨8193, fy_rd hn (fun _ => ⟨rfl, I'⟩) (fun c => ?_) 8192 0 (by omega) (fun s z => absurd z (Nat.not_lt_zero _)) 8193 (by omega)⟩)
      obtain ⟨t, ht, e⟩ := h
      exact absurd (c t ht) e
    · refine br_f (nI_pos (by omega)) (br_t (nI_lt hj (by omega)) ⟨8193, fy_rd hn (fun c => ?_) (fun _ => ⟨rfl, I'⟩) 8192 0 (by omega) (fun s z => absurd z (Nat.not_lt_zero _)) 8193 (by omega)⟩)
      obtain ⟨t, ht, e⟩ := c
      exact absurd (h t ht) e
