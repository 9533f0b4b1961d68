theorem i_vc_connState {k : Nat} {u : SX} {v : SY} (I : i_Rel k u v) (hk : k + 5 ≤ 2563) (v1 : Int32) (v2 : Int32) (v3 : Int32) : wpX_connState (fun r => wpY_connState (fun r' v' => r' = r ∧ i_Rel (k + 5) u v') v v1 v2 v3) u v1 v2 v3 := by
  have I' := I
  obtain ⟨rc, cc, n, m, da, ck, fd, r, pr, ad, po, st, ex, nx, rS, rD, rP, rA, cp, cs, ct, cd, cu, cst, cx, cn0, cn1, rfl, rfl, hrc, hcc, hnr, hmc, R, E⟩ := I
  have hm : m ≤ 16 := by omega
  have J : ∀ e, i_Rel (k + 5) (nI rc, nI cc, da, nI n, nI m, ck, r, pr, ad, po, st, ex, nx) (nI rc, nI cc, da, nI n, nI m, ck, e, rS, rD, rP, rA, cp, cs, ct, cd, cu, cst, cx, cn0, cn1) := fun e => ⟨rc, cc, n, m, da, ck, e, r, pr, ad, po, st, ex, nx, rS, rD, rP, rA, cp, cs, ct, cd, cu, cst, cx, cn0, cn1, rfl, rfl, hrc, hcc, hnr, hmc, R, E⟩
  unfold wpX_connState wpY_connState
  dsimp only
  refine fx_validHeader (fw_br (fun b => fy_validHdr (fw_bf b ⟨rfl, I'⟩)) (fun b => ?_))
  obtain ⟨⟨a, ha, rfl⟩, ⟨q, hq, rfl⟩, _⟩ := fw_hd_r b
  rw [fw_lo (a := a) (by omega), fw_hi (a := a) (by omega), fw_lo (a := q) (by omega), fw_hi (a := q) (by omega)]
  refine fx_lookup hm ha hq (fun i d F => br_f (fw_ne1 (by have := F.1; have := F.2.1; omega)) ?_) (fun N => br_t rfl ?_)
  · have hi := F.1
    have hd := F.2.1
    rw [fw_h2 (by omega) hd, nI_clamp (n := i) (by omega)]
    refine ⟨by decide, vp_in_nI (by omega) (by decide), fy_validHdr (fw_bt b (fy_lkF E hm ha hq F (fun j hj hg => br_t (nI_pos' (by omega)) ?_)))⟩
    rw [nI_clamp (n := j) (by omega)]
    exact ⟨vp_in_nI (by omega) (by decide), (fw_gx hg).2.2.2.1, J _⟩
  · exact fy_validHdr (fw_bt b (fy_lkN E hm ha hq N (br_f (by decide) ⟨rfl, I'⟩)))
theorem i_vc_connDirection {k : Nat} {u : SX} {v : SY} (I : i_Rel k u v) (hk : k + 5 ≤ 2563) (v1 : Int32) (v2 : Int32) (v3 : Int32) : wpX_connDirection (fun r => wpY_connDirection (fun r' v' => r' = r ∧ i_Rel (k + 5) u v') v v1 v2 v3) u v1 v2 v3 := by
  have I' := I
  obtain ⟨rc, cc, n, m, da, ck, fd, r, pr, ad, po, st, ex, nx, rS, rD, rP, rA, cp, cs, ct, cd, cu, cst, cx, cn0, cn1, rfl, rfl, hrc, hcc, hnr, hmc, R, E⟩ := I
  have hm : m ≤ 16 := by omega
  have J : ∀ e, i_Rel (k + 5) (nI rc, nI cc, da, nI n, nI m, ck, r, pr, ad, po, st, ex, nx) (nI rc, nI cc, da, nI n, nI m, ck, e, rS, rD, rP, rA, cp, cs, ct, cd, cu, cst, cx, cn0, cn1) := fun e => ⟨rc, cc, n, m, da, ck, e, r, pr, ad, po, st, ex, nx, rS, rD, rP, rA, cp, cs, ct, cd, cu, cst, cx, cn0, cn1, rfl, rfl, hrc, hcc, hnr, hmc, R, E⟩
  unfold wpX_connDirection wpY_connDirection
  dsimp only
  refine fx_validHeader (fw_br (fun b => fy_validHdr (fw_bf b ⟨rfl, I'⟩)) (fun b => ?_))
  obtain ⟨⟨a, ha, rfl⟩, ⟨q, hq, rfl⟩, _⟩ := fw_hd_r b
  rw [fw_lo (a := a) (by omega), fw_hi (a := a) (by omega), fw_lo (a := q) (by omega), fw_hi (a := q) (by omega)]
  refine fx_lookup hm ha hq (fun i d F => br_f (fw_ne1 (by have := F.1; have := F.2.1; omega)) ?_) (fun N => br_t rfl ?_)
  · have hi := F.1
    have hd := F.2.1
    rw [fw_h1 (by omega) hd]
    exact ⟨by decide, fy_validHdr (fw_bt b (fy_lkF E hm ha hq F (fun j hj hg => br_t (nI_pos' (by omega)) ⟨rfl, J _⟩)))⟩
  · exact fy_validHdr (fw_bt b (fy_lkN E hm ha hq N (br_f (by decide) ⟨rfl, I'⟩)))
theorem i_vc_connTimeLeft {k : Nat} {u : SX} {v : SY} (I : i_Rel k u v) (hk : k + 5 ≤ 2563) (v1 : Int32) (v2 : Int32) (v3 : Int32) : wpX_connTimeLeft (fun r => wpY_connTimeLeft (fun r' v' => r' = r ∧ i_Rel (k + 5) u v') v v1 v2 v3) u v1 v2 v3 := by
  have I' := I
  obtain ⟨rc, cc, n, m, da, ck, fd, r, pr, ad, po, st, ex, nx, rS, rD, rP, rA, cp, cs, ct, cd, cu, cst, cx, cn0, cn1, rfl, rfl, hrc, hcc, hnr, hmc, R, E⟩ := I
  have hm : m ≤ 16 := by omega
  have J : ∀ e, i_Rel (k + 5) (nI rc, nI cc, da, nI n, nI m, ck, r, pr, ad, po, st, ex, nx) (nI rc, nI cc, da, nI n, nI m, ck, e, rS, rD, rP, rA, cp, cs, ct, cd, cu, cst, cx, cn0, cn1) := fun e => ⟨rc, cc, n, m, da, ck, e, r, pr, ad, po, st, ex, nx, rS, rD, rP, rA, cp, cs, ct, cd, cu, cst, cx, cn0, cn1, rfl, rfl, hrc, hcc, hnr, hmc, R, E⟩
  unfold wpX_connTimeLeft wpY_connTimeLeft
  dsimp only
  refine fx_validHeader (fw_br (fun b => fy_validHdr (fw_bf b ⟨rfl, I'⟩)) (fun b => ?_))
  obtain ⟨⟨a, ha, rfl⟩, ⟨q, hq, rfl⟩, _⟩ := fw_hd_r b
  rw [fw_lo (a := a) (by omega), fw_hi (a := a) (by omega), fw_lo (a := q) (by omega), fw_hi (a := q) (by omega)]
  refine fx_lookup hm ha hq (fun i d F => br_f (fw_ne1 (by have := F.1; have := F.2.1; omega)) ?_) (fun N => br_t rfl ?_)
  · have hi := F.1
    have hd := F.2.1
    rw [fw_h2 (by omega) hd, nI_clamp (n := i) (by omega)]
    refine ⟨by decide, vp_in_nI (by omega) (by decide), fy_validHdr (fw_bt b (fy_lkF E hm ha hq F (fun j hj hg => br_t (nI_pos' (by omega)) ?_)))⟩
    rw [nI_clamp (n := j) (by omega)]
    exact ⟨vp_in_nI (by omega) (by decide), congrArg (fun z => z - ck) (fw_gx hg).2.2.2.2.1, J _⟩
  · exact fy_validHdr (fw_bt b (fy_lkN E hm ha hq N (br_f (by decide) ⟨rfl, I'⟩)))
theorem i_vc_connNextSeq {k : Nat} {u : SX} {v : SY} (I : i_Rel k u v) (hk : k + 5 ≤ 2563) (v1 : Int32) (v2 : Int32) (v3 : Int32) : wpX_connNextSeq (fun r => wpY_connNextSeq (fun r' v' => r' = r ∧ i_Rel (k + 5) u v') v v1 v2 v3) u v1 v2 v3 := by
  have I' := I
  obtain ⟨rc, cc, n, m, da, ck, fd, r, pr, ad, po, st, ex, nx, rS, rD, rP, rA, cp, cs, ct, cd, cu, cst, cx, cn0, cn1, rfl, rfl, hrc, hcc, hnr, hmc, R, E⟩ := I
  have hm : m ≤ 16 := by omega
  have J : ∀ e, i_Rel (k + 5) (nI rc, nI cc, da, nI n, nI m, ck, r, pr, ad, po, st, ex, nx) (nI rc, nI cc, da, nI n, nI m, ck, e, rS, rD, rP, rA, cp, cs, ct, cd, cu, cst, cx, cn0, cn1) := fun e => ⟨rc, cc, n, m, da, ck, e, r, pr, ad, po, st, ex, nx, rS, rD, rP, rA, cp, cs, ct, cd, cu, cst, cx, cn0, cn1, rfl, rfl, hrc, hcc, hnr, hmc, R, E⟩
  unfold wpX_connNextSeq wpY_connNextSeq
  dsimp only
  refine fx_validHeader (fw_br (fun b => fy_validHdr (fw_bf b ⟨rfl, I'⟩)) (fun b => ?_))
  obtain ⟨⟨a, ha, rfl⟩, ⟨q, hq, rfl⟩, _⟩ := fw_hd_r b
  rw [fw_lo (a := a) (by omega), fw_hi (a := a) (by omega), fw_lo (a := q) (by omega), fw_hi (a := q) (by omega)]
  refine fx_lookup hm ha hq (fun i d F => br_f (fw_ne1 (by have := F.1; have := F.2.1; omega)) ?_) (fun N => br_t rfl ?_)
  · have hi := F.1
    have hd := F.2.1
    obtain ⟨o1, o2, o3, o4, o5, o6, o7⟩ := fw_okx E hi
    have on : fw_N (nx (2 * i + d)) := by
      have hd2 : d = 0 ∨ d = 1 := by omega
      rcases hd2 with e | e
      · rw [e]; exact o5
      · rw [e]; exact o6
    have W : ∀ (x : Int32) (j : Nat), j < m → fw_g (fw_YT cp cs ct cd cu cst cx cn0 cn1 j) = fw_XT pr ad po st ex nx i → (nx (2 * i + d) = -1 → x = -2) → (¬ nx (2 * i + d) = -1 → x = nx (2 * i + d)) →
        ((cp j = 1 → (-2 = x ∧ i_Rel (k + 5) (nI rc, nI cc, da, nI n, nI m, ck, r, pr, ad, po, st, ex, nx) (nI rc, nI cc, da, nI n, nI m, ck, nI d, rS, rD, rP, rA, cp, cs, ct, cd, cu, cst, cx, cn0, cn1))) ∧ (¬ cp j = 1 → ((nI d = 0 → (vp_in (nI j) 16 ∧ wY_connNextSeq_79 (fun r' v' => r' = x ∧ i_Rel (k + 5) (nI rc, nI cc, da, nI n, nI m, ck, r, pr, ad, po, st, ex, nx) v') (cn0 j) (nI rc) (nI cc) da (nI n) (nI m) ck (nI d) rS rD rP rA cp cs ct cd cu cst cx cn0 cn1)) ∧ (¬ nI d = 0 → (vp_in (nI j) 16 ∧ wY_connNextSeq_79 (fun r' v' => r' = x ∧ i_Rel (k + 5) (nI rc, nI cc, da, nI n, nI m, ck, r, pr, ad, po, st, ex, nx) v') (cn1 j) (nI rc) (nI cc) da (nI n) (nI m) ck (nI d) rS rD rP rA cp cs ct cd cu cst cx cn0 cn1))))) := by
      intro x j hj hg x1 x2
      obtain ⟨g1, g2, g3, g4, g5, g6, g7⟩ := fw_gx hg
      have v : vp_in (nI j) 16 := vp_in_nI (by omega) (by decide)
      have S : ∀ y : Int32, y = nx (2 * i + d) → wY_connNextSeq_79 (fun r' v' => r' = x ∧ i_Rel (k + 5) (nI rc, nI cc, da, nI n, nI m, ck, r, pr, ad, po, st, ex, nx) v') y (nI rc) (nI cc) da (nI n) (nI m) ck (nI d) rS rD rP rA cp cs ct cd cu cst cx cn0 cn1 := by
        intro y e
        subst e
        rcases on with e | ⟨z, hz, e⟩
        · rw [e]
          exact br_f (by decide) ⟨(x1 e).symm, J _⟩
        · have e9 : ¬ nx (2 * i + d) = -1 := by rw [e]; exact fw_ne1 (by omega)
          refine br_t ?_ ⟨(x2 e9).symm, J _⟩
          rw [e]; exact nI_pos' (by omega)
      refine br_c (fun c => ⟨?_, J _⟩) (fun c => ?_)
      · have hp := o7 (g1.symm.trans c)
        have hd2 : d = 0 ∨ d = 1 := by omega
        rcases hd2 with e | e
        · subst e; exact (x1 hp.1).symm
        · subst e; exact (x1 hp.2).symm
      · rw [if_neg c] at g6 g7
        have hd2 : d = 0 ∨ d = 1 := by omega
        rcases hd2 with e | e
        · subst e
          exact br_t rfl ⟨v, S _ g6⟩
        · subst e
          exact br_f (by decide) ⟨v, S _ g7⟩
    have v : vp_in (nI (2 * i + d)) 32 := vp_in_nI (by omega) (by decide)
    rw [nI_clamp (n := 2 * i + d) (by omega)]
    refine ⟨v, br_c (fun z => fy_validHdr (fw_bt b (fy_lkF E hm ha hq F (fun j hj hg => br_t (nI_pos' (by omega)) ?_)))) (fun z => ⟨v, fy_validHdr (fw_bt b (fy_lkF E hm ha hq F (fun j hj hg => br_t (nI_pos' (by omega)) ?_)))⟩)⟩
    · rw [nI_clamp (n := j) (by omega)]
      exact ⟨vp_in_nI (by omega) (by decide), W (-2) j hj hg (fun _ => rfl) (fun y => absurd z y)⟩
    · rw [nI_clamp (n := j) (by omega)]
      exact ⟨vp_in_nI (by omega) (by decide), W (nx (2 * i + d)) j hj hg (fun y => absurd y z) (fun _ => rfl)⟩
  · exact fy_validHdr (fw_bt b (fy_lkN E hm ha hq N (br_f (by decide) ⟨rfl, I'⟩)))
