section EX
variable {da ck : Int32} {r pr ad po st ex nx : Nat → Int32} {rc n m : Nat} {cc : Int32}
theorem fx_add1 {post : Int32 → SX → Prop} {a b c d : Int32} (hrc : rc ≤ 16) (hn : n < rc) (h1 : fw_vp a = true) (h2 : fw_vp b = true) (h3 : fw_vq c = true) (h4 : fw_va d = true)
    (H : post (nI n) (nI rc, cc, da, nI (n + 1), nI m, ck, upd (upd (upd (upd r (4 * n) a) (4 * n + 1) b) (4 * n + 2) c) (4 * n + 3) d, pr, ad, po, st, ex, nx)) : wpX_addRule post (nI rc, cc, da, nI n, nI m, ck, r, pr, ad, po, st, ex, nx) a b c d := by
  unfold wpX_addRule
  dsimp only
  refine fx_validPrefix (fw_bt h1 (fx_validPrefix (fw_bt h2 (fx_validPortRange (fw_bt h3 (fx_validProtoAction (fw_bt h4 (br_t (nI_lt hn (by omega)) ?_))))))))
  intro x6 e6
  subst e6
  rw [fw_40, fw_41, fw_42, fw_43, nI_clamp (n := 4 * n) (by omega), nI_clamp (n := 4 * n + 1) (by omega), nI_clamp (n := 4 * n + 2) (by omega), nI_clamp (n := 4 * n + 3) (by omega)]
  exact ⟨vp_in_nI (by omega) (by decide), nm_e ⟨vp_in_nI (by omega) (by decide), nm_e ⟨vp_in_nI (by omega) (by decide), nm_e ⟨vp_in_nI (by omega) (by decide), nm_e (nm_r (nI_1 n) H)⟩⟩⟩⟩
theorem fx_add0 {post : Int32 → SX → Prop} {a b c d : Int32} (hrc : rc ≤ 16) (hnr : n ≤ rc) (hG : ¬ (n < rc ∧ fw_vp a = true ∧ fw_vp b = true ∧ fw_vq c = true ∧ fw_va d = true))
    (H : post (-1) (nI rc, cc, da, nI n, nI m, ck, r, pr, ad, po, st, ex, nx)) : wpX_addRule post (nI rc, cc, da, nI n, nI m, ck, r, pr, ad, po, st, ex, nx) a b c d := by
  unfold wpX_addRule
  dsimp only
  refine fx_validPrefix (fw_br (fun _ => H) (fun h1 => fx_validPrefix (fw_br (fun _ => H) (fun h2 => fx_validPortRange (fw_br (fun _ => H) (fun h3 => fx_validProtoAction (fw_br (fun _ => H) (fun h4 => br_c (fun z => ?_) (fun _ => H)))))))))
  exact absurd ⟨(nI_ltI (by omega) (by omega)).mp z, h1, h2, h3, h4⟩ hG
theorem fx_rr {post : Int32 → SX → Prop} {k n' : Nat} (hn : n' < 16) {r0 : Nat → Int32}
    (H : ∀ r', fw_mv r0 r' 4 (4 * k) (4 * n') → post (nI n') (nI rc, cc, da, nI n', nI m, ck, r', pr, ad, po, st, ex, nx)) :
    ∀ d c, c + d = 4 * n' → 4 * k ≤ c → ∀ r' f, fw_mv r0 r' 4 (4 * k) c → d < f → wX_removeRule_31 post (nI (4 * n')) (nI rc) cc da (nI n') (nI m) ck f (nI c) r' pr ad po st ex nx := by
  intro d
  induction d with
  | zero =>
    intro c hc hk r' f h hf
    obtain ⟨f, rfl⟩ : ∃ g, f = g + 1 := ⟨f - 1, by omega⟩
    have e : c = 4 * n' := by omega
    subst e
    exact br_t (nI_le (by omega) (by omega)) (H r' h)
  | succ d ih =>
    intro c hc hk r' f h hf
    obtain ⟨f, rfl⟩ : ∃ g, f = g + 1 := ⟨f - 1, by omega⟩
    have e4 : nI c + 4 = nI (c + 4) := nI_add c 4
    rw [wX_removeRule_31]
    dsimp only
    rw [e4, nI_clamp (n := c) (by omega), nI_clamp (n := c + 4) (by omega)]
    exact br_f (nI_ge (by omega) (by omega)) ⟨vp_in_nI (by omega) (by decide), vp_in_nI (by omega) (by decide), nm_e (nm_r (nI_1 c) (ih (c + 1) (by omega) (by omega) _ f (fw_mv_s (by decide) hk h) (by omega)))⟩
end EX
section EY
variable {da ck fd cc : Int32} {rS rD rP rA cp cs ct cd cu cst cx cn0 cn1 : Nat → Int32} {rc n m : Nat}
theorem fy_add1 {post : Int32 → SY → Prop} {a b c d : Int32} (hrc : rc ≤ 16) (hn : n < rc) (h1 : fw_vp a = true) (h2 : fw_vp b = true) (h3 : fw_vq c = true) (h4 : fw_va d = true)
    (H : post (nI n) (nI rc, cc, da, nI (n + 1), nI m, ck, fd, upd rS n a, upd rD n b, upd rP n c, upd rA n d, cp, cs, ct, cd, cu, cst, cx, cn0, cn1)) : wpY_addRule post (nI rc, cc, da, nI n, nI m, ck, fd, rS, rD, rP, rA, cp, cs, ct, cd, cu, cst, cx, cn0, cn1) a b c d := by
  have h3' := h3
  have h4' := h4
  unfold fw_vq at h3'
  unfold fw_va at h4'
  rw [Bool.and_eq_true] at h3' h4'
  obtain ⟨a1, a2⟩ := fw_in_t h3'.1
  obtain ⟨b1, b2⟩ := fw_in_t h4'.1
  have a3 := of_decide_eq_true h3'.2
  have b3 := (fw_vk h1 h2 h3 h4).2.2.2.2.2
  unfold wpY_addRule
  dsimp only
  refine br_t (nI_lt hn (by omega)) (fy_validPrefix (fw_bt h1 (fy_validPrefix (fw_bt h2 (br_f a1 (br_t a2 (br_t a3 (br_f b1 (br_t b2 (br_f b3 ?_)))))))))) 
  rw [nI_clamp (n := n) (by omega)]
  have v : vp_in (nI n) 16 := vp_in_nI (by omega) (by decide)
  refine ⟨v, nm_e ⟨v, nm_e ⟨v, nm_e ⟨v, nm_e (nm_r (nI_1 n) ?_)⟩⟩⟩⟩
  rw [nI_pred]
  exact H
theorem fy_add0 {post : Int32 → SY → Prop} {a b c d : Int32} (hrc : rc ≤ 16) (hnr : n ≤ rc) (hG : ¬ (n < rc ∧ fw_vp a = true ∧ fw_vp b = true ∧ fw_vq c = true ∧ fw_va d = true))
    (H : post (-1) (nI rc, cc, da, nI n, nI m, ck, fd, rS, rD, rP, rA, cp, cs, ct, cd, cu, cst, cx, cn0, cn1)) : wpY_addRule post (nI rc, cc, da, nI n, nI m, ck, fd, rS, rD, rP, rA, cp, cs, ct, cd, cu, cst, cx, cn0, cn1) a b c d := by
  unfold wpY_addRule
  dsimp only
  refine br_c (fun z => fy_validPrefix (fw_br (fun _ => H) (fun h1 => fy_validPrefix (fw_br (fun _ => H) (fun h2 => br_c (fun _ => H) (fun a1 => br_c (fun a2 => br_c (fun a3 => br_c (fun _ => H) (fun b1 => br_c (fun b2 => br_c (fun _ => H) (fun b3 => ?_)) (fun _ => H))) (fun _ => H)) (fun _ => H)))))))  (fun _ => H)
  refine absurd ⟨(nI_ltI (by omega) (by omega)).mp z, h1, h2, ?_, ?_⟩ hG
  · unfold fw_vq
    rw [fw_in_m a1 a2, decide_eq_true a3]
    rfl
  · unfold fw_va
    rw [fw_in_m b1 b2, decide_eq_false b3]
    rfl
theorem fy_rr {post : Int32 → SY → Prop} {k n' : Nat} (hn : n' < 16) {s0 d0 p0 a0 : Nat → Int32}
    (H : ∀ s' d' p' a', fw_mv s0 s' 1 k n' → fw_mv d0 d' 1 k n' → fw_mv p0 p' 1 k n' → fw_mv a0 a' 1 k n' → post (nI n') (nI rc, cc, da, nI n', nI m, ck, fd, s', d', p', a', cp, cs, ct, cd, cu, cst, cx, cn0, cn1)) :
    ∀ d j, j + d = n' → k ≤ j → ∀ s' d' p' a' f, fw_mv s0 s' 1 k j → fw_mv d0 d' 1 k j → fw_mv p0 p' 1 k j → fw_mv a0 a' 1 k j → d < f → wY_removeRule_16 post (nI rc) cc da (nI (n' + 1)) (nI m) ck fd f (nI j) s' d' p' a' cp cs ct cd cu cst cx cn0 cn1 := by
  intro d
  induction d with
  | zero =>
    intro j hj hk s' d' p' a' f h1 h2 h3 h4 hf
    obtain ⟨f, rfl⟩ : ∃ g, f = g + 1 := ⟨f - 1, by omega⟩
    have e : j = n' := by omega
    subst e
    rw [wY_removeRule_16, nI_pred]
    exact br_t (nI_le (by omega) (by omega)) (nm_e (H s' d' p' a' h1 h2 h3 h4))
  | succ d ih =>
    intro j hj hk s' d' p' a' f h1 h2 h3 h4 hf
    obtain ⟨f, rfl⟩ : ∃ g, f = g + 1 := ⟨f - 1, by omega⟩
    rw [wY_removeRule_16]
    dsimp only
    rw [nI_pred, nI_1 j, nI_clamp (n := j) (by omega), nI_clamp (n := j + 1) (by omega)]
    have v : vp_in (nI j) 16 := vp_in_nI (by omega) (by decide)
    have v' : vp_in (nI (j + 1)) 16 := vp_in_nI (by omega) (by decide)
    exact br_f (nI_ge (by omega) (by omega)) ⟨v', v, nm_e ⟨v', v, nm_e ⟨v', v, nm_e ⟨v', v, nm_e (nm_e (ih (j + 1) (by omega) (by omega) _ _ _ _ f (fw_mv_s (by decide) hk h1) (fw_mv_s (by decide) hk h2) (fw_mv_s (by decide) hk h3) (fw_mv_s (by decide) hk h4) (by omega)))⟩⟩⟩⟩
end EY
theorem i_vc_addRule {k : Nat} {u : SX} {v : SY} (I : i_Rel k u v) (hk : k + 5 ≤ 2563) (v1 : Int32) (v2 : Int32) (v3 : Int32) (v4 : Int32) : wpX_addRule (fun r u' => wpY_addRule (fun r' v' => r' = r ∧ i_Rel (k + 5) u' v') v v1 v2 v3 v4) u v1 v2 v3 v4 := by
  have I' := I
  obtain ⟨rc, cc, n, m, da, ck, fd, r, pr, ad, po, st, ex, nx, rS, rD, rP, rA, cp, cs, ct, cd, cu, cst, cx, cn0, cn1, rfl, rfl, hrc, hcc, hnr, hmc, R, E⟩ := I
  by_cases hG : n < rc ∧ fw_vp v1 = true ∧ fw_vp v2 = true ∧ fw_vq v3 = true ∧ fw_va v4 = true
  · obtain ⟨h0, h1, h2, h3, h4⟩ := hG
    refine fx_add1 hrc h0 h1 h2 h3 h4 (fy_add1 hrc h0 h1 h2 h3 h4 ⟨rfl, ?_⟩)
    exact ⟨rc, cc, n + 1, m, da, ck, fd, _, pr, ad, po, st, ex, nx, _, _, _, _, cp, cs, ct, cd, cu, cst, cx, cn0, cn1, rfl, rfl, hrc, hcc, h0, hmc, fw_R_add R (fw_vk h1 h2 h3 h4), E⟩
  · exact fx_add0 hrc hnr hG (fy_add0 hrc hnr hG ⟨rfl, I'⟩)
theorem i_vc_removeRule {k : Nat} {u : SX} {v : SY} (I : i_Rel k u v) (hk : k + 5 ≤ 2563) (v1 : Int32) : wpX_removeRule (fun r u' => wpY_removeRule (fun r' v' => r' = r ∧ i_Rel (k + 5) u' v') v v1) u v1 := by
  have I' := I
  obtain ⟨rc, cc, n, m, da, ck, fd, r, pr, ad, po, st, ex, nx, rS, rD, rP, rA, cp, cs, ct, cd, cu, cst, cx, cn0, cn1, rfl, rfl, hrc, hcc, hnr, hmc, R, E⟩ := I
  have hn : n ≤ 16 := by omega
  unfold wpX_removeRule wpY_removeRule
  dsimp only
  refine fx_holdsRule (fw_br (fun b => ?_) (fun b => ?_))
  · refine br_c (fun _ => ⟨rfl, I'⟩) (fun a => br_c (fun c => ?_) (fun _ => ⟨rfl, I'⟩))
    exact absurd ((fw_in_n hn).mpr (fw_rn hn a c)) (by rw [b]; decide)
  · obtain ⟨j, hj, rfl⟩ := (fw_in_n hn).mp b
    obtain ⟨n', rfl⟩ : ∃ n', n = n' + 1 := ⟨n - 1, by omega⟩
    refine nm_r (nI_pred n') (nm_r (pk_mul 4 n') (nm_r (pk_mul 4 j) ⟨4 * n' + 1, fx_rr (k := j) (n' := n') (by omega) (fun r' hr => ?_) (4 * n' - 4 * j) (4 * j) (by omega) (Nat.le_refl _) r (4 * n' + 1) (fw_mv_0 r 4 (4 * j)) (by omega)⟩))
    refine br_f (nI_pos (by omega)) (br_t (nI_lt hj (by omega)) ⟨n' + 1, fy_rr (k := j) (n' := n') (by omega) (fun s' d' p' a' h1 h2 h3 h4 => ⟨rfl, ?_⟩) (n' - j) j (by omega) (Nat.le_refl _) rS rD rP rA (n' + 1) (fw_mv_0 _ _ _) (fw_mv_0 _ _ _) (fw_mv_0 _ _ _) (fw_mv_0 _ _ _) (by omega)⟩)
    exact ⟨rc, cc, n', m, da, ck, fd, r', pr, ad, po, st, ex, nx, s', d', p', a', cp, cs, ct, cd, cu, cst, cx, cn0, cn1, rfl, rfl, hrc, hcc, by omega, hmc, fw_R_del R hr (by omega) h1 h2 h3 h4, E⟩
theorem i_vc_ruleInfo {k : Nat} {u : SX} {v : SY} (I : i_Rel k u v) (hk : k + 5 ≤ 2563) (v1 : Int32) (v2 : Int32) : wpX_ruleInfo (fun r => wpY_ruleInfo (fun r' => r' = r ∧ i_Rel (k + 5) u v) v v1 v2) u v1 v2 := by
  have I' := I
  obtain ⟨rc, cc, n, m, da, ck, fd, r, pr, ad, po, st, ex, nx, rS, rD, rP, rA, cp, cs, ct, cd, cu, cst, cx, cn0, cn1, rfl, rfl, hrc, hcc, hnr, hmc, R, E⟩ := I
  have hn : n ≤ 16 := by omega
  unfold wpX_ruleInfo wpY_ruleInfo
  dsimp only
  refine fx_holdsRule (fw_br (fun b => ?_) (fun b => fx_inRange (fw_br (fun c => ?_) (fun c => ?_))))
  · refine br_c (fun _ => ⟨rfl, I'⟩) (fun a => br_c (fun _ => ⟨rfl, I'⟩) (fun c => ?_))
    exact absurd ((fw_in_n hn).mpr (fw_rn hn a (Int32.not_le.mp c))) (by rw [b]; decide)
  · refine br_c (fun _ => ⟨rfl, I'⟩) (fun _ => br_c (fun _ => ⟨rfl, I'⟩) (fun _ => br_c (fun _ => ⟨rfl, I'⟩) (fun a => br_c (fun d => ?_) (fun _ => ⟨rfl, I'⟩))))
    exact absurd (fw_in_m a d) (by rw [c]; decide)
  · obtain ⟨j, hj, rfl⟩ := (fw_in_n hn).mp b
    obtain ⟨k1, k2, k3, k4, _⟩ := R j hj
    obtain ⟨c1, c2⟩ := fw_in_t c
    obtain ⟨q, hq, rfl⟩ : fw_r 4 v2 := (fw_in_r 3 (by decide)).mp c
    have e : 4 * nI j + nI q = nI (4 * j + q) := (congrArg (· + nI q) (pk_mul 4 j)).trans (nI_add _ q)
    have v : vp_in (nI j) 16 := vp_in_nI (by omega) (by decide)
    rw [e, nI_clamp (n := 4 * j + q) (by omega), nI_clamp (n := j) (by omega)]
    refine ⟨vp_in_nI (by omega) (by decide), br_f (nI_pos (by omega)) (br_f (nI_ge hj (by omega)) (br_f c1 (br_t c2 ?_)))⟩
    have q4 : q = 0 ∨ q = 1 ∨ q = 2 ∨ q = 3 := by omega
    rcases q4 with rfl | rfl | rfl | rfl
    · exact br_t rfl ⟨v, k1.symm, I'⟩
    · exact br_f (by decide) (br_t rfl ⟨v, k2.symm, I'⟩)
    · exact br_f (by decide) (br_f (by decide) (br_t rfl ⟨v, k3.symm, I'⟩))
    · exact br_f (by decide) (br_f (by decide) (br_f (by decide) ⟨v, k4.symm, I'⟩))
