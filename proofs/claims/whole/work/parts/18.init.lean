def fw_cl (p lo hi : Int32) : Int32 := if lo ≤ p then (if p ≤ hi then p else hi) else lo
theorem fx_clamp {post : Int32 → Prop} {p lo hi : Int32} (H : post (fw_cl p lo hi)) : wpX_clamp post p lo hi := by
  unfold fw_cl at H
  refine br_c (fun a => br_c (fun b => ?_) (fun b => ?_)) (fun a => ?_)
  · rw [if_pos a, if_pos b] at H; exact H
  · rw [if_pos a, if_neg b] at H; exact H
  · rw [if_neg a] at H; exact H
theorem fw_cl16 (p : Int32) : ∃ c : Nat, c ≤ 16 ∧ fw_cl p 4 16 = nI c := by
  unfold fw_cl
  by_cases a : 4 ≤ p
  · rw [if_pos a]
    by_cases b : p ≤ 16
    · rw [if_pos b]
      have h : ¬ p < 0 := Int32.not_lt.mpr (Int32.le_trans (by decide) a)
      obtain ⟨j, hj, rfl⟩ := nI_of h
      exact ⟨j, (nI_leI (b := 16) hj (by decide)).mp b, rfl⟩
    · rw [if_neg b]; exact ⟨16, by decide, rfl⟩
  · rw [if_neg a]; exact ⟨4, by decide, rfl⟩
theorem fy_i155 {post : SY → Prop} {x3 z0 rc cc da n0 m0 ck fd : Int32} {rS rD rP rA cp cs ct cd cu cst cx cn0 cn1 : Nat → Int32} (H : post (rc, z0, fw_cl x3 0 1, n0, m0, ck, fd, rS, rD, rP, rA, cp, cs, ct, cd, cu, cst, cx, cn0, cn1)) : wY_init_155 post x3 z0 rc cc da n0 m0 ck fd rS rD rP rA cp cs ct cd cu cst cx cn0 cn1 := by
  unfold fw_cl at H
  refine br_c (fun a => br_c (fun b => ?_) (fun b => ?_)) (fun a => ?_)
  · rw [if_pos a, if_pos b] at H; exact H
  · rw [if_pos a, if_neg b] at H; exact H
  · rw [if_neg a] at H; exact H
theorem fy_init {post : SY → Prop} {p0 p1 p2 : Int32} (H : post (fw_cl p0 4 16, fw_cl p1 4 16, fw_cl p2 0 1, 0, 0, 0, 0, (fun _ => 0), (fun _ => 0), (fun _ => 0), (fun _ => 0), (fun _ => 0), (fun _ => 0), (fun _ => 0), (fun _ => 0), (fun _ => 0), (fun _ => 0), (fun _ => 0), (fun _ => 0), (fun _ => 0))) : wpY_init post p0 p1 p2 := by
  have B : ∀ z, post (z, fw_cl p1 4 16, fw_cl p2 0 1, 0, 0, 0, 0, (fun _ => 0), (fun _ => 0), (fun _ => 0), (fun _ => 0), (fun _ => 0), (fun _ => 0), (fun _ => 0), (fun _ => 0), (fun _ => 0), (fun _ => 0), (fun _ => 0), (fun _ => 0), (fun _ => 0)) → wY_init_130 post p1 p2 z 0 0 0 0 0 0 0 (fun _ => 0) (fun _ => 0) (fun _ => 0) (fun _ => 0) (fun _ => 0) (fun _ => 0) (fun _ => 0) (fun _ => 0) (fun _ => 0) (fun _ => 0) (fun _ => 0) (fun _ => 0) (fun _ => 0) := by
    intro z H
    rw [show fw_cl p1 4 16 = if 4 ≤ p1 then (if p1 ≤ 16 then p1 else 16) else 4 from rfl] at H
    refine br_c (fun a => br_c (fun b => ?_) (fun b => ?_)) (fun a => ?_)
    · rw [if_pos a, if_pos b] at H; exact fy_i155 H
    · rw [if_pos a, if_neg b] at H; exact fy_i155 H
    · rw [if_neg a] at H; exact fy_i155 H
  rw [show fw_cl p0 4 16 = if 4 ≤ p0 then (if p0 ≤ 16 then p0 else 16) else 4 from rfl] at H
  refine br_c (fun a => br_c (fun b => ?_) (fun b => ?_)) (fun a => ?_)
  · rw [if_pos a, if_pos b] at H; exact B _ H
  · rw [if_pos a, if_neg b] at H; exact B _ H
  · rw [if_neg a] at H; exact B _ H
theorem i_vc0 (k0 : Int32) (k1 : Int32) (k2 : Int32) : wpX_init (fun u => wpY_init (fun v => i_Rel 3 u v) k0 k1 k2) k0 k1 k2 := by
  unfold wpX_init
  refine fx_clamp (fx_clamp (fx_clamp (fy_init ?_)))
  obtain ⟨rc, hrc, e0⟩ := fw_cl16 k0
  obtain ⟨cc, hcc, e1⟩ := fw_cl16 k1
  rw [e0, e1]
  exact ⟨rc, cc, 0, 0, _, 0, 0, _, _, _, _, _, _, _, _, _, _, _, _, _, _, _, _, _, _, _, _, rfl, rfl, hrc, hcc, Nat.zero_le _, Nat.zero_le _, fw_R_0, fw_E_0⟩
