section QY
variable {rc cc da ck fd : Int32} {rS rD rP rA pr ad po st ex nx cp cs ct cd cu cst cx cn0 cn1 : Nat → Int32} {n m : Nat}
theorem fy_pk0 {post : Int32 → SY → Prop} {p0 p1 p2 p3 : Int32} (hG : ¬ (fw_in p0 255 = true ∧ fw_in p1 255 = true ∧ fw_in p2 31 = true ∧ fw_in p3 255 = true ∧ ¬ ((p2 &&& 1) = 1 ∧ ¬ (p2 >>> ((1 : Int32) &&& 31)) = 0)))
    (H : post (-1) (rc, cc, da, nI n, nI m, ck, fd, rS, rD, rP, rA, cp, cs, ct, cd, cu, cst, cx, cn0, cn1)) : wpY_packet post (rc, cc, da, nI n, nI m, ck, fd, rS, rD, rP, rA, cp, cs, ct, cd, cu, cst, cx, cn0, cn1) p0 p1 p2 p3 := by
  unfold wpY_packet
  dsimp only
  refine br_c (fun _ => H) (fun a0 => br_c (fun _ => H) (fun a1 => br_c (fun _ => H) (fun b0 => br_c (fun b1 => br_c (fun _ => H) (fun c0 => br_c (fun _ => H) (fun c1 => br_c (fun _ => H) (fun d0 => br_c (fun d1 => nm_e (nm_e ?_)) (fun _ => H))))) (fun _ => H))))
  have i0 : fw_in p0 255 = true := fw_in_m a0 (Int32.not_lt.mp a1)
  have i1 : fw_in p1 255 = true := fw_in_m b0 b1
  have i2 : fw_in p2 31 = true := fw_in_m c0 (Int32.not_lt.mp c1)
  have i3 : fw_in p3 255 = true := fw_in_m d0 d1
  exact br_c (fun e => br_c (fun z => absurd ⟨i0, i1, i2, i3, fun c => c.2 z⟩ hG) (fun _ => H)) (fun e => absurd ⟨i0, i1, i2, i3, fun c => e c.1⟩ hG)
theorem fy_pk1 {post : Int32 → SY → Prop} {a q w s : Nat} (ha : a < 256) (hq : q < 256) (hw : w < 32) (hs : s < 256) (hG : ¬ (w % 2 = 1 ∧ ¬ w / 2 = 0))
    (H : wY_packet_72 post (nI a) (nI q) (nI s) (nI (w % 2)) (nI (w / 2)) rc cc da (nI n) (nI m) ck fd rS rD rP rA cp cs ct cd cu cst cx cn0 cn1) : wpY_packet post (rc, cc, da, nI n, nI m, ck, fd, rS, rD, rP, rA, cp, cs, ct, cd, cu, cst, cx, cn0, cn1) (nI a) (nI q) (nI w) (nI s) := by
  unfold wpY_packet
  dsimp only
  have e1 : nI w &&& 1 = nI (w % 2) := pk_andN (by omega) 1 (by decide)
  have e2 : nI w >>> ((1 : Int32) &&& 31) = nI (w / 2) := pk_shrN (by omega) _ 1 (by decide)
  rw [e1, e2]
  refine br_f (nI_pos (by omega)) (br_f (nI_nlt (a := 255) (by omega) (by decide)) (br_f (nI_pos (by omega)) (br_t (nI_le (b := 255) (by omega) (by decide)) (br_f (nI_pos (by omega)) (br_f (nI_nlt (a := 31) (by omega) (by decide)) (br_f (nI_pos (by omega)) (br_t (nI_le (b := 255) (by omega) (by decide)) (nm_e (nm_e ?_)))))))))
  refine br_c (fun e => br_c (fun _ => H) (fun z => ?_)) (fun _ => H)
  refine absurd ⟨(nI_eq (b := 1) (by omega) (by decide)).mp e, fun c => z ?_⟩ hG
  rw [c]; rfl
theorem fy_72N {post : Int32 → SY → Prop} {a q s : Nat} {P FL : Int32} (E : fw_E (fw_L (fw_XT pr ad po st ex nx) m) (fw_L (fw_YT cp cs ct cd cu cst cx cn0 cn1) m)) (hm : m ≤ 16) (hn : n ≤ 16) (ha : a < 256) (hq : q < 256)
    (N : fw_none (fw_XT pr ad po st ex nx) m P a q)
    (H : (fw_ac (fw_ff (fw_lo1 (-1) (fw_M rS rD rP rA (nI (a % 16)) (nI (a / 16)) (nI (q / 16)) P)) n 0) n rA da = 0 → post 0 (rc, cc, da, nI n, nI m, ck, fd, rS, rD, rP, rA, cp, cs, ct, cd, cu, cst, cx, cn0, cn1)) ∧ (¬ fw_ac (fw_ff (fw_lo1 (-1) (fw_M rS rD rP rA (nI (a % 16)) (nI (a / 16)) (nI (q / 16)) P)) n 0) n rA da = 0 →
      ((P = 0 → ((FL = 1 → wY_packet_657 post (nI s) P (nI (a % 16)) (nI (a / 16)) (nI (q % 16)) (nI (q / 16)) rc cc da (nI n) (nI m) ck fd rS rD rP rA cp cs ct cd cu cst cx cn0 cn1) ∧ (¬ FL = 1 → post 3 (rc, cc, da, nI n, nI m, ck, fd, rS, rD, rP, rA, cp, cs, ct, cd, cu, cst, cx, cn0, cn1)))) ∧ (¬ P = 0 → wY_packet_657 post (nI s) P (nI (a % 16)) (nI (a / 16)) (nI (q % 16)) (nI (q / 16)) rc cc da (nI n) (nI m) ck fd rS rD rP rA cp cs ct cd cu cst cx cn0 cn1)))) :
    wY_packet_72 post (nI a) (nI q) (nI s) P FL rc cc da (nI n) (nI m) ck fd rS rD rP rA cp cs ct cd cu cst cx cn0 cn1 := by
  unfold wY_packet_72
  exact nm_r (fw_lo (by omega)) (nm_r (fw_hi (by omega)) (nm_r (fw_lo (by omega)) (nm_r (fw_hi (by omega)) (fy_lkN E hm ha hq N (br_t (by decide) (fy_decide hn H))))))
theorem fy_72F {post : Int32 → SY → Prop} {a q s i d : Nat} {P FL : Int32} (E : fw_E (fw_L (fw_XT pr ad po st ex nx) m) (fw_L (fw_YT cp cs ct cd cu cst cx cn0 cn1) m)) (hm : m ≤ 16) (ha : a < 256) (hq : q < 256)
    (F : fw_F (fw_XT pr ad po st ex nx) m P a q i d)
    (H : ∀ j, j < m → fw_g (fw_YT cp cs ct cd cu cst cx cn0 cn1 j) = fw_XT pr ad po st ex nx i →
      ((P = 1 → ((nI d = 1 → wY_packet_149 post (nI j) 9 rc cc da (nI n) (nI m) ck (nI d) rS rD rP rA cp cs ct cd cu cst cx cn0 cn1) ∧ (¬ nI d = 1 → wY_packet_149 post (nI j) (cst j) rc cc da (nI n) (nI m) ck (nI d) rS rD rP rA cp cs ct cd cu cst cx cn0 cn1))) ∧ (¬ P = 1 →
        (((FL &&& 8) = 0 → ((FL = 2 → wY_packet_237 post (nI s) FL (nI j) (nI d) (cst j) (-1) 1 rc cc da (nI n) (nI m) ck (nI d) rS rD rP rA cp cs ct cd cu cst cx cn0 cn1) ∧ (¬ FL = 2 → wY_packet_237 post (nI s) FL (nI j) (nI d) (cst j) (-1) 0 rc cc da (nI n) (nI m) ck (nI d) rS rD rP rA cp cs ct cd cu cst cx cn0 cn1))) ∧ (¬ (FL &&& 8) = 0 →
          ((cst j = 1 → ((nI d = 1 → wY_packet_213 post (nI j) rc cc da (nI n) (nI m) ck (nI d) rS rD rP rA cp cs ct cd cu cst cx cn0 cn1) ∧ (¬ nI d = 1 → wY_packet_200 post (nI s) (nI j) (nI d) rc cc da (nI n) (nI m) ck (nI d) rS rD rP rA cp cs ct cd cu cst cx cn0 cn1))) ∧ (¬ cst j = 1 → wY_packet_200 post (nI s) (nI j) (nI d) rc cc da (nI n) (nI m) ck (nI d) rS rD rP rA cp cs ct cd cu cst cx cn0 cn1))))))) :
    wY_packet_72 post (nI a) (nI q) (nI s) P FL rc cc da (nI n) (nI m) ck fd rS rD rP rA cp cs ct cd cu cst cx cn0 cn1 := by
  unfold wY_packet_72
  refine nm_r (fw_lo (by omega)) (nm_r (fw_hi (by omega)) (nm_r (fw_lo (by omega)) (nm_r (fw_hi (by omega)) (fy_lkF E hm ha hq F (fun j hj hg => br_f (nI_pos (by omega)) ⟨vp_in_nI (by omega) (by decide), nm_r ?_ (H j hj hg)⟩)))))
  exact congrArg cst (nI_clamp (by omega))
theorem fy_tcp {post : Int32 → SY → Prop} {j d k : Nat} {S FL : Int32} (hj : j < 16) (hd : d < 2) (hk : k < 7) (hst : cst j = nI (k + 1))
    (Z0 : fw_sa (cst j) (nI d) FL S (if d = 0 then cn0 j else cn1 j) = 0 → wY_packet_552 post S (nI j) (nI d) (-1) rc cc da (nI n) (nI m) ck fd rS rD rP rA cp cs ct cd cu cst cx cn0 cn1)
    (Z1 : ∀ x, fw_sa (cst j) (nI d) FL S (if d = 0 then cn0 j else cn1 j) = x → ¬ x = 0 → wY_packet_552 post S (nI j) (nI d) x rc cc da (nI n) (nI m) ck fd rS rD rP rA cp cs ct cd cu cst cx cn0 cn1) :
    (FL = 2 → wY_packet_237 post S FL (nI j) (nI d) (cst j) (-1) 1 rc cc da (nI n) (nI m) ck fd rS rD rP rA cp cs ct cd cu cst cx cn0 cn1) ∧ (¬ FL = 2 → wY_packet_237 post S FL (nI j) (nI d) (cst j) (-1) 0 rc cc da (nI n) (nI m) ck fd rS rD rP rA cp cs ct cd cu cst cx cn0 cn1) := by
  have W : ∀ x15 z0 : Int32, ((FL = 2 ∧ x15 = 1 ∧ z0 = 0) ∨ (FL = 6 ∧ x15 = 0 ∧ z0 = 1) ∨ (¬ FL = 2 ∧ ¬ FL = 6 ∧ x15 = 0 ∧ z0 = 0)) → wY_packet_251 post S FL (nI j) (nI d) (cst j) (-1) x15 z0 rc cc da (nI n) (nI m) ck fd rS rD rP rA cp cs ct cd cu cst cx cn0 cn1 := by
    intro x15 z0 hx
    rw [hst] at Z0 Z1 ⊢
    have k7 : k = 0 ∨ k = 1 ∨ k = 2 ∨ k = 3 ∨ k = 4 ∨ k = 5 ∨ k = 6 := by omega
    have d2 : d = 0 ∨ d = 1 := by omega
    rcases d2 with rfl | rfl
    · rw [if_pos rfl] at Z0 Z1
      rcases k7 with rfl | rfl | rfl | rfl | rfl | rfl | rfl
      · exact fy_s10 hj hx Z0 Z1
      · exact fy_s20 hj hx Z0 Z1
      · exact fy_s30 hj hx Z0 Z1
      · exact fy_s40 hj hx Z0 Z1
      · exact fy_s50 hj hx Z0 Z1
      · exact fy_s60 hj hx Z0 Z1
      · exact fy_s70 hj hx Z0 Z1
    · rw [if_neg (by decide)] at Z0 Z1
      rcases k7 with rfl | rfl | rfl | rfl | rfl | rfl | rfl
      · exact fy_s11 hj hx Z0 Z1
      · exact fy_s21 hj hx Z0 Z1
      · exact fy_s31 hj hx Z0 Z1
      · exact fy_s41 hj hx Z0 Z1
      · exact fy_s51 hj hx Z0 Z1
      · exact fy_s61 hj hx Z0 Z1
      · exact fy_s71 hj hx Z0 Z1
  exact br_c (fun f => br_f (by rw [f]; decide) (W 1 0 (Or.inl ⟨f, rfl, rfl⟩))) (fun f => br_c (fun g => W 0 1 (Or.inr (Or.inl ⟨g, rfl, rfl⟩))) (fun g => W 0 0 (Or.inr (Or.inr ⟨f, g, rfl, rfl⟩))))
theorem fy_213 {post : Int32 → SY → Prop} {j m' : Nat} (hm : m' < 16) (hj : j ≤ m')
    (H : ∀ (cp' cs' ct' cd' cu' cst' cx' cn0' cn1' : Nat → Int32), fw_SH (fw_YT cp cs ct cd cu cst cx cn0 cn1) (fw_YT cp' cs' ct' cd' cu' cst' cx' cn0' cn1') j m' → post 5 (rc, cc, da, nI n, nI m', ck, fd, rS, rD, rP, rA, cp', cs', ct', cd', cu', cst', cx', cn0', cn1')) :
    wY_packet_213 post (nI j) rc cc da (nI n) (nI (m' + 1)) ck fd rS rD rP rA cp cs ct cd cu cst cx cn0 cn1 :=
  ⟨m' + 1, fy_rc hm H (m' - j) j cp cs ct cd cu cst cx cn0 cn1 (by omega) (Nat.le_refl _) fw_SH_0 (m' + 1) (by omega)⟩
theorem fy_200 {post : Int32 → SY → Prop} {j d : Nat} {S : Int32} (hj : j < 16) (hd : d < 2)
    (h0 : fw_iw S (if d = 0 then cn0 j else cn1 j) = false → post 3 (rc, cc, da, nI n, nI m, ck, fd, rS, rD, rP, rA, cp, cs, ct, cd, cu, cst, cx, cn0, cn1)) (h1 : fw_iw S (if d = 0 then cn0 j else cn1 j) = true → wY_packet_213 post (nI j) rc cc da (nI n) (nI m) ck fd rS rD rP rA cp cs ct cd cu cst cx cn0 cn1) :
    wY_packet_200 post S (nI j) (nI d) rc cc da (nI n) (nI m) ck fd rS rD rP rA cp cs ct cd cu cst cx cn0 cn1 := by
  have d2 : d = 0 ∨ d = 1 := by omega
  rcases d2 with rfl | rfl
  · rw [if_pos rfl] at h0 h1
    exact fy_iw0 hj (fw_br h0 h1)
  · rw [if_neg (by decide)] at h0 h1
    exact fy_iw1 hj (fw_br h0 h1)
theorem fw_Kp {p : Int32} {a q d : Nat} : (fw_K p a q d).1 = p := by
  unfold fw_K
  split <;> rfl
theorem fw_Fp {p : Int32} {a q i d : Nat} (F : fw_F (fw_XT pr ad po st ex nx) m p a q i d) : pr i = p := (congrArg (fun t => t.1) F.2.2.1).trans fw_Kp
theorem fw_nxd {i j d : Nat} (hd : d < 2) (hg : fw_g (fw_YT cp cs ct cd cu cst cx cn0 cn1 j) = fw_XT pr ad po st ex nx i) (hp : ¬ pr i = 1) : nx (2 * i + d) = if d = 0 then cn0 j else cn1 j := by
  obtain ⟨g1, g2, g3, g4, g5, g6, g7⟩ := fw_gx hg
  rw [g1, if_neg hp] at g6 g7
  have d2 : d = 0 ∨ d = 1 := by omega
  rcases d2 with rfl | rfl
  · exact g6.symm
  · exact g7.symm
end QY
