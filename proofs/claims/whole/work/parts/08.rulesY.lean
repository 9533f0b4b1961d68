section FY
variable {rc cc da ck fd : Int32} {rS rD rP rA cp cs ct cd cu cst cx cn0 cn1 : Nat → Int32} {n m : Nat}
theorem fy_validPrefix {post : Int32 → Prop} {p : Int32} (H : post (fw_b (fw_vp p))) : wpY_validPrefix post (rc, cc, da, nI n, nI m, ck, fd, rS, rD, rP, rA, cp, cs, ct, cd, cu, cst, cx, cn0, cn1) p := by
  unfold fw_vp at H
  unfold wpY_validPrefix
  dsimp only
  refine br_c (fun a => ?_) (fun a => br_c (fun b => ?_) (fun b => ?_))
  · rw [show fw_in p 79 = false from by unfold fw_in; rw [decide_eq_false (fun z => z a)]; rfl] at H; exact H
  · have e := fw_in_m a b
    have h : fw_r 80 p := (fw_in_r 79 (by decide)).mp e
    refine nm_e ⟨fw_bd0 h, br_c (fun c => ?_) (fun c => ?_)⟩
    · have c' : (p &&& 15) - (p &&& 15) / fw_bd p * fw_bd p = 0 := c
      rw [e, decide_eq_true c'] at H; exact H
    · have c' : ¬ (p &&& 15) - (p &&& 15) / fw_bd p * fw_bd p = 0 := c
      rw [e, decide_eq_false c'] at H; exact H
  · rw [show fw_in p 79 = false from by unfold fw_in; rw [decide_eq_false b, Bool.and_false]] at H; exact H
theorem fy_pmatch {post : Int32 → Prop} {p x : Int32} (H : post (fw_b (fw_pm p x))) : wpY_pmatch post (rc, cc, da, nI n, nI m, ck, fd, rS, rD, rP, rA, cp, cs, ct, cd, cu, cst, cx, cn0, cn1) p x := by
  unfold wpY_pmatch
  dsimp only
  refine nm_e (br_c (fun b => ?_) (fun b => ?_))
  · rw [show fw_pm p x = true from decide_eq_true b] at H; exact H
  · rw [show fw_pm p x = false from decide_eq_false b] at H; exact H
theorem fy_matches {post : Int32 → Prop} {i : Nat} {s t q p : Int32} (hi : i < 16) (H : post (fw_b (fw_M rS rD rP rA s t q p i))) : wpY_matches post (rc, cc, da, nI n, nI m, ck, fd, rS, rD, rP, rA, cp, cs, ct, cd, cu, cst, cx, cn0, cn1) (nI i) s t q p := by
  unfold wpY_matches
  dsimp only
  rw [nI_clamp (n := i) (by omega)]
  have v : vp_in (nI i) 16 := vp_in_nI hi (by decide)
  unfold fw_M fw_m fw_pq fw_pp at H
  refine ⟨v, fy_pmatch (fw_br (fun b1 => ?_) (fun b1 => ⟨v, fy_pmatch (fw_br (fun b2 => ?_) (fun b2 => ⟨v, nm_e ⟨v, nm_e (br_c (fun b3 => ?_) (fun b3 => br_c (fun b4 => ⟨v, nm_e (br_c (fun b5 => ?_) (fun b5 => br_c (fun b6 => ?_) (fun b6 => ?_)))⟩) (fun b4 => ?_)))⟩⟩))⟩))⟩
  · rw [b1] at H; exact H
  · rw [b1, b2] at H; exact H
  · rw [b1, b2, decide_eq_false (Int32.not_le.mpr b3)] at H; exact H
  · rw [b1, b2, decide_eq_true (Int32.not_lt.mp b3), decide_eq_true b4, decide_eq_true b5] at H; exact H
  · rw [b1, b2, decide_eq_true (Int32.not_lt.mp b3), decide_eq_true b4, decide_eq_false b5, decide_eq_true b6] at H; exact H
  · rw [b1, b2, decide_eq_true (Int32.not_lt.mp b3), decide_eq_true b4, decide_eq_false b5, decide_eq_false b6] at H; exact H
  · rw [b1, b2, decide_eq_true (Int32.not_lt.mp b3), decide_eq_false b4] at H; exact H
theorem fy_dl {post : Int32 → Prop} {s t q p L : Int32} (hn : n ≤ 16) :
    ∀ d i, i + d = n → post (fw_ac (fw_ff (fw_lo1 L (fw_M rS rD rP rA s t q p)) d i) n rA da) → ∀ f, d < f → wY_decide_3 post s t q p L rc cc da (nI n) (nI m) ck fd rS rD rP rA cp cs ct cd cu cst cx cn0 cn1 f (nI i) := by
  intro d
  induction d with
  | zero =>
    intro i hi H f hf
    obtain ⟨f, rfl⟩ : ∃ g, f = g + 1 := ⟨f - 1, by omega⟩
    have e : i = n := by omega
    subst e
    have e1 : fw_ac (fw_ff (fw_lo1 L (fw_M rS rD rP rA s t q p)) 0 i) i rA da = da := if_neg (Nat.lt_irrefl i)
    rw [e1] at H
    exact br_t (nI_le (Nat.le_refl _) (by omega)) H
  | succ d ih =>
    intro i hi H f hf
    obtain ⟨f, rfl⟩ : ∃ g, f = g + 1 := ⟨f - 1, by omega⟩
    refine br_f (nI_ge (by omega) (by omega)) (br_c (fun e => nm_r (nI_1 i) (ih (i + 1) (by omega) ?_ f (by omega))) (fun e => fy_matches (by omega) (fw_br (fun b => nm_r (nI_1 i) (ih (i + 1) (by omega) ?_ f (by omega))) (fun b => ⟨vp_in_nI (by omega) (by decide), ?_⟩))))
    · have z : fw_lo1 L (fw_M rS rD rP rA s t q p) i = false := by unfold fw_lo1; rw [decide_eq_true e]; rfl
      rw [fw_ff_f z] at H; exact H
    · have z : fw_lo1 L (fw_M rS rD rP rA s t q p) i = false := by unfold fw_lo1; rw [decide_eq_false e, b]; rfl
      rw [fw_ff_f z] at H; exact H
    · have z : fw_lo1 L (fw_M rS rD rP rA s t q p) i = true := by unfold fw_lo1; rw [decide_eq_false e, b]; rfl
      rw [fw_ff_t z, show fw_ac i n rA da = (rA i) >>> ((2 : Int32) &&& 31) from if_pos (by omega)] at H
      rw [nI_clamp (n := i) (by omega)]
      exact H
theorem fy_decide {post : Int32 → Prop} {s t q p L : Int32} (hn : n ≤ 16) (H : post (fw_ac (fw_ff (fw_lo1 L (fw_M rS rD rP rA s t q p)) n 0) n rA da)) : wpY_decide post (rc, cc, da, nI n, nI m, ck, fd, rS, rD, rP, rA, cp, cs, ct, cd, cu, cst, cx, cn0, cn1) s t q p L :=
  ⟨n + 1, fy_dl hn n 0 (by omega) H (n + 1) (by omega)⟩
theorem fy_validHdr {post : Int32 → Prop} {a b p : Int32} (H : post (fw_b (fw_hd a b p))) : wpY_validHdr post (rc, cc, da, nI n, nI m, ck, fd, rS, rD, rP, rA, cp, cs, ct, cd, cu, cst, cx, cn0, cn1) a b p := by
  unfold fw_hd at H
  unfold wpY_validHdr
  dsimp only
  have F : ∀ {x h : Int32}, x < 0 → fw_in x h = false := fun z => by unfold fw_in; rw [decide_eq_false (fun y => y z)]; rfl
  have G : ∀ {x h : Int32}, h < x → fw_in x h = false := fun z => by unfold fw_in; rw [decide_eq_false (Int32.not_le.mpr z), Bool.and_false]
  refine br_c (fun h1 => ?_) (fun h1 => br_c (fun h2 => ?_) (fun h2 => br_c (fun h3 => ?_) (fun h3 => br_c (fun h4 => ?_) (fun h4 => br_c (fun h5 => ?_) (fun h5 => br_c (fun h6 => ?_) (fun h6 => ?_))))))
  · rw [F h1] at H; exact H
  · rw [G h2] at H; exact H
  · rw [fw_in_m h1 (Int32.not_lt.mp h2), F h3] at H; exact H
  · rw [fw_in_m h1 (Int32.not_lt.mp h2), G h4] at H; exact H
  · rw [fw_in_m h1 (Int32.not_lt.mp h2), fw_in_m h3 (Int32.not_lt.mp h4), F h5] at H; exact H
  · rw [fw_in_m h1 (Int32.not_lt.mp h2), fw_in_m h3 (Int32.not_lt.mp h4), G h6] at H; exact H
  · rw [fw_in_m h1 (Int32.not_lt.mp h2), fw_in_m h3 (Int32.not_lt.mp h4), fw_in_m h5 (Int32.not_lt.mp h6)] at H; exact H
theorem fy_mr {post : Int32 → Prop} {a b : Nat} {p : Int32} (hn : n ≤ 16) (ha : a < 256) (hb : b < 256) :
    ∀ d i, i + d = n → post (fw_ix (fw_ff (fw_M rS rD rP rA (nI (a % 16)) (nI (a / 16)) (nI (b / 16)) p) d i) n) → ∀ f, d < f → wY_matchingRule_15 post (nI a) (nI b) p rc cc da (nI n) (nI m) ck fd rS rD rP rA cp cs ct cd cu cst cx cn0 cn1 f (nI i) := by
  intro d
  induction d with
  | zero =>
    intro i hi H f hf
    obtain ⟨f, rfl⟩ : ∃ g, f = g + 1 := ⟨f - 1, by omega⟩
    have e : i = n := by omega
    subst e
    have e1 : fw_ix (fw_ff (fw_M rS rD rP rA (nI (a % 16)) (nI (a / 16)) (nI (b / 16)) p) 0 i) i = -2 := if_neg (Nat.lt_irrefl i)
    rw [e1] at H
    exact br_t (nI_le (Nat.le_refl _) (by omega)) H
  | succ d ih =>
    intro i hi H f hf
    obtain ⟨f, rfl⟩ : ∃ g, f = g + 1 := ⟨f - 1, by omega⟩
    rw [wY_matchingRule_15, fw_lo (a := a) (by omega), fw_hi (a := a) (by omega), fw_hi (a := b) (by omega)]
    refine br_f (nI_ge (by omega) (by omega)) (fy_matches (by omega) (fw_br (fun z => nm_r (nI_1 i) (ih (i + 1) (by omega) ?_ f (by omega))) (fun z => ?_)))
    · rw [fw_ff_f z] at H; exact H
    · rw [fw_ff_t z, show fw_ix i n = nI i from if_pos (by omega)] at H; exact H
end FY
theorem i_vc_ruleCount {k : Nat} {u : SX} {v : SY} (I : i_Rel k u v) (hk : k + 5 ≤ 2563) : wpX_ruleCount (fun r => wpY_ruleCount (fun r' => r' = r ∧ i_Rel (k + 5) u v) v) u := by
  have I' := I
  obtain ⟨rc, cc, n, m, da, ck, fd, r, pr, ad, po, st, ex, nx, rS, rD, rP, rA, cp, cs, ct, cd, cu, cst, cx, cn0, cn1, rfl, rfl, h⟩ := I
  exact ⟨rfl, I'⟩
theorem i_vc_now {k : Nat} {u : SX} {v : SY} (I : i_Rel k u v) (hk : k + 5 ≤ 2563) : wpX_now (fun r => wpY_now (fun r' => r' = r ∧ i_Rel (k + 5) u v) v) u := by
  have I' := I
  obtain ⟨rc, cc, n, m, da, ck, fd, r, pr, ad, po, st, ex, nx, rS, rD, rP, rA, cp, cs, ct, cd, cu, cst, cx, cn0, cn1, rfl, rfl, h⟩ := I
  exact ⟨rfl, I'⟩
theorem i_vc_connCount {k : Nat} {u : SX} {v : SY} (I : i_Rel k u v) (hk : k + 5 ≤ 2563) : wpX_connCount (fun r => wpY_connCount (fun r' => r' = r ∧ i_Rel (k + 5) u v) v) u := by
  have I' := I
  obtain ⟨rc, cc, n, m, da, ck, fd, r, pr, ad, po, st, ex, nx, rS, rD, rP, rA, cp, cs, ct, cd, cu, cst, cx, cn0, cn1, rfl, rfl, h⟩ := I
  exact ⟨rfl, I'⟩
theorem i_vc_classify {k : Nat} {u : SX} {v : SY} (I : i_Rel k u v) (hk : k + 5 ≤ 2563) (v1 : Int32) (v2 : Int32) (v3 : Int32) : wpX_classify (fun r => wpY_classify (fun r' => r' = r ∧ i_Rel (k + 5) u v) v v1 v2 v3) u v1 v2 v3 := by
  have I' := I
  obtain ⟨rc, cc, n, m, da, ck, fd, r, pr, ad, po, st, ex, nx, rS, rD, rP, rA, cp, cs, ct, cd, cu, cst, cx, cn0, cn1, rfl, rfl, hrc, hcc, hnr, hmc, R, E⟩ := I
  unfold wpX_classify wpY_classify
  dsimp only
  refine fx_validHeader (fw_br (fun b => ?_) (fun b => ?_))
  · exact fy_validHdr (fw_bf b ⟨rfl, I'⟩)
  · obtain ⟨⟨a, ha, rfl⟩, ⟨q, hq, rfl⟩, _⟩ := fw_hd_r b
    refine fx_decision R (by omega) ha hq (fy_validHdr (fw_bt b ?_))
    rw [fw_lo (a := a) (by omega), fw_hi (a := a) (by omega), fw_hi (a := q) (by omega)]
    exact fy_decide (by omega) ⟨rfl, I'⟩
theorem i_vc_matchingRule {k : Nat} {u : SX} {v : SY} (I : i_Rel k u v) (hk : k + 5 ≤ 2563) (v1 : Int32) (v2 : Int32) (v3 : Int32) : wpX_matchingRule (fun r => wpY_matchingRule (fun r' => r' = r ∧ i_Rel (k + 5) u v) v v1 v2 v3) u v1 v2 v3 := by
  have I' := I
  obtain ⟨rc, cc, n, m, da, ck, fd, r, pr, ad, po, st, ex, nx, rS, rD, rP, rA, cp, cs, ct, cd, cu, cst, cx, cn0, cn1, rfl, rfl, hrc, hcc, hnr, hmc, R, E⟩ := I
  unfold wpX_matchingRule wpY_matchingRule
  dsimp only
  refine fx_validHeader (fw_br (fun b => ?_) (fun b => ?_))
  · exact fy_validHdr (fw_bf b ⟨rfl, I'⟩)
  · obtain ⟨⟨a, ha, rfl⟩, ⟨q, hq, rfl⟩, _⟩ := fw_hd_r b
    have eb : nI q / 16 = nI (q / 16) := pk_div (d := 16) (by omega) (by decide) (by decide)
    rw [eb]
    refine ⟨by decide, fx_firstMatch R (by omega) ha (fy_validHdr (fw_bt b ?_))⟩
    rw [fw_lo1_m (by omega)]
    exact ⟨n + 1, fy_mr (by omega) ha hq n 0 (by omega) ⟨rfl, I'⟩ (n + 1) (by omega)⟩
