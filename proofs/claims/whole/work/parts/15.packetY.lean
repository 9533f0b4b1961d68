section PY
variable {rc cc da ck fd : Int32} {rS rD rP rA pr ad po st ex nx cp cs ct cd cu cst cx cn0 cn1 : Nat → Int32} {n m : Nat}
theorem fy_timeout {post : Int32 → Prop} {p : Int32} (H : post (fw_to p)) : wpY_timeout post (rc, cc, da, nI n, nI m, ck, fd, rS, rD, rP, rA, cp, cs, ct, cd, cu, cst, cx, cn0, cn1) p := by
  unfold wpY_timeout
  dsimp only
  unfold fw_to at H
  refine br_c (fun e => ?_) (fun h1 => br_c (fun e => ?_) (fun h2 => br_c (fun e => ?_) (fun h3 => br_c (fun e => ?_) (fun h4 => br_c (fun e => ?_) (fun h5 => br_c (fun e => ?_) (fun h6 => br_c (fun e => ?_) (fun h7 => br_c (fun e => ?_) (fun h8 => ?_))))))))
  · rw [if_pos e] at H; exact H
  · rw [if_neg h1, if_pos e] at H; exact H
  · rw [if_neg h1, if_neg h2, if_pos e] at H; exact H
  · rw [if_neg h1, if_neg h2, if_neg h3, if_pos e] at H; exact H
  · rw [if_neg h1, if_neg h2, if_neg h3, if_neg h4, if_pos e] at H; exact H
  · rw [if_neg h1, if_neg h2, if_neg h3, if_neg h4, if_neg h5, if_pos e] at H; exact H
  · rw [if_neg h1, if_neg h2, if_neg h3, if_neg h4, if_neg h5, if_neg h6, if_pos e] at H; exact H
  · rw [if_neg h1, if_neg h2, if_neg h3, if_neg h4, if_neg h5, if_neg h6, if_neg h7, if_pos e] at H; exact H
  · rw [if_neg h1, if_neg h2, if_neg h3, if_neg h4, if_neg h5, if_neg h6, if_neg h7, if_neg h8] at H; exact H
theorem fy_iw {post : Int32 → Prop} {s x : Int32} (H : post (fw_b (fw_iw s x))) : wY_inWin_19 post s x rc cc da (nI n) (nI m) ck fd rS rD rP rA cp cs ct cd cu cst cx cn0 cn1 := by
  refine br_c (fun a => ?_) (fun a => ?_)
  · rw [show fw_iw s x = false from decide_eq_false (Int32.not_lt.mpr a)] at H; exact H
  · rw [show fw_iw s x = true from decide_eq_true (Int32.not_le.mp a)] at H; exact H
theorem fy_rt {post : Int32 → Prop} {s x : Int32} (H : post (fw_b (fw_rt s x))) : wY_retrans_19 post s x rc cc da (nI n) (nI m) ck fd rS rD rP rA cp cs ct cd cu cst cx cn0 cn1 := by
  refine br_c (fun a => ?_) (fun a => ?_)
  · rw [show fw_rt s x = true from decide_eq_true a] at H; exact H
  · rw [show fw_rt s x = false from decide_eq_false a] at H; exact H
theorem fy_iw0 {post : Int32 → Prop} {j : Nat} {s : Int32} (hj : j < 16) (H : post (fw_b (fw_iw s (cn0 j)))) : wpY_inWin post (rc, cc, da, nI n, nI m, ck, fd, rS, rD, rP, rA, cp, cs, ct, cd, cu, cst, cx, cn0, cn1) (nI j) 0 s := by
  unfold wpY_inWin
  dsimp only
  rw [nI_clamp (n := j) (by omega)]
  exact br_t rfl ⟨vp_in_nI hj (by decide), fy_iw H⟩
theorem fy_iw1 {post : Int32 → Prop} {j : Nat} {s : Int32} (hj : j < 16) (H : post (fw_b (fw_iw s (cn1 j)))) : wpY_inWin post (rc, cc, da, nI n, nI m, ck, fd, rS, rD, rP, rA, cp, cs, ct, cd, cu, cst, cx, cn0, cn1) (nI j) 1 s := by
  unfold wpY_inWin
  dsimp only
  rw [nI_clamp (n := j) (by omega)]
  exact br_f (by decide) ⟨vp_in_nI hj (by decide), fy_iw H⟩
theorem fy_rt0 {post : Int32 → Prop} {j : Nat} {s : Int32} (hj : j < 16) (H : post (fw_b (fw_rt s (cn0 j)))) : wpY_retrans post (rc, cc, da, nI n, nI m, ck, fd, rS, rD, rP, rA, cp, cs, ct, cd, cu, cst, cx, cn0, cn1) (nI j) 0 s := by
  unfold wpY_retrans
  dsimp only
  rw [nI_clamp (n := j) (by omega)]
  exact br_t rfl ⟨vp_in_nI hj (by decide), fy_rt H⟩
theorem fy_rt1 {post : Int32 → Prop} {j : Nat} {s : Int32} (hj : j < 16) (H : post (fw_b (fw_rt s (cn1 j)))) : wpY_retrans post (rc, cc, da, nI n, nI m, ck, fd, rS, rD, rP, rA, cp, cs, ct, cd, cu, cst, cx, cn0, cn1) (nI j) 1 s := by
  unfold wpY_retrans
  dsimp only
  rw [nI_clamp (n := j) (by omega)]
  exact br_f (by decide) ⟨vp_in_nI hj (by decide), fy_rt H⟩
theorem fy_681 {post : Int32 → SY → Prop} {x4 x5 x7 x8 x9 x10 z0 y0 : Int32} (hm : m < 16) (hp : (x5 = 0 ∧ y0 = ((x4 + 1) &&& 255)) ∨ (¬ x5 = 0 ∧ y0 = 0))
    (H : post 1 (rc, cc, da, nI n, nI (m + 1), ck, fd, rS, rD, rP, rA, upd cp m x5, upd cs m x7, upd ct m x9, upd cd m x8, upd cu m x10, upd cst m z0, upd cx m (ck + fw_to z0), upd cn0 m y0, upd cn1 m (-1))) :
    wY_packet_681 post x4 x5 x7 x8 x9 x10 z0 rc cc da (nI n) (nI m) ck fd rS rD rP rA cp cs ct cd cu cst cx cn0 cn1 := by
  have v : vp_in (nI m) 16 := vp_in_nI (by omega) (by decide)
  unfold wY_packet_681
  rw [nI_clamp (n := m) (by omega)]
  refine ⟨v, nm_e ⟨v, nm_e ⟨v, nm_e ⟨v, nm_e ⟨v, nm_e ⟨v, nm_e (fy_timeout ⟨v, nm_e ?_⟩)⟩⟩⟩⟩⟩⟩
  rcases hp with ⟨h1, h2⟩ | ⟨h1, h2⟩
  · subst h2
    refine br_t h1 ?_
    unfold wY_packet_794
    rw [nI_clamp (n := m) (by omega)]
    exact ⟨v, nm_e ⟨v, nm_e (nm_r (nI_1 m) H)⟩⟩
  · subst h2
    refine br_f h1 ?_
    unfold wY_packet_794
    rw [nI_clamp (n := m) (by omega)]
    exact ⟨v, nm_e ⟨v, nm_e (nm_r (nI_1 m) H)⟩⟩
theorem fy_597 {post : Int32 → SY → Prop} {j : Nat} {t : Int32} (hj : j < 16) (H : post 2 (rc, cc, da, nI n, nI m, ck, fd, rS, rD, rP, rA, cp, cs, ct, cd, cu, upd cst j t, upd cx j (ck + fw_to t), cn0, cn1)) : wY_packet_597 post (nI j) t rc cc da (nI n) (nI m) ck fd rS rD rP rA cp cs ct cd cu cst cx cn0 cn1 := by
  have v : vp_in (nI j) 16 := vp_in_nI (by omega) (by decide)
  unfold wY_packet_597
  rw [nI_clamp (n := j) (by omega)]
  exact ⟨v, nm_e (fy_timeout ⟨v, nm_e H⟩)⟩
theorem fy_149 {post : Int32 → SY → Prop} {j : Nat} {t : Int32} (hj : j < 16) (H : post 2 (rc, cc, da, nI n, nI m, ck, fd, rS, rD, rP, rA, cp, cs, ct, cd, cu, upd cst j t, upd cx j (ck + fw_to t), cn0, cn1)) : wY_packet_149 post (nI j) t rc cc da (nI n) (nI m) ck fd rS rD rP rA cp cs ct cd cu cst cx cn0 cn1 := by
  have v : vp_in (nI j) 16 := vp_in_nI (by omega) (by decide)
  unfold wY_packet_149
  rw [nI_clamp (n := j) (by omega)]
  exact ⟨v, nm_e (fy_timeout ⟨v, nm_e H⟩)⟩
theorem fy_s10 {post : Int32 → SY → Prop} {j : Nat} {S FL x15 z0 : Int32} (hj : j < 16) (hx : (FL = 2 ∧ x15 = 1 ∧ z0 = 0) ∨ (FL = 6 ∧ x15 = 0 ∧ z0 = 1) ∨ (¬ FL = 2 ∧ ¬ FL = 6 ∧ x15 = 0 ∧ z0 = 0))
    (Z0 : fw_sa 1 0 FL S (cn0 j) = 0 → wY_packet_552 post S (nI j) 0 (-1) rc cc da (nI n) (nI m) ck fd rS rD rP rA cp cs ct cd cu cst cx cn0 cn1) (Z1 : ∀ x, fw_sa 1 0 FL S (cn0 j) = x → ¬ x = 0 → wY_packet_552 post S (nI j) 0 x rc cc da (nI n) (nI m) ck fd rS rD rP rA cp cs ct cd cu cst cx cn0 cn1) :
    wY_packet_251 post S FL (nI j) 0 1 (-1) x15 z0 rc cc da (nI n) (nI m) ck fd rS rD rP rA cp cs ct cd cu cst cx cn0 cn1 := by
  exact br_t rfl (br_t rfl (br_c (fun f => fy_rt0 hj (fw_br (fun b => br_f (by decide) (Z0 (by simp [fw_sa, fw_fin, f, b]))) (fun b => Z1 1 (by simp [fw_sa, fw_fin, f, b]) (by decide)))) (fun f => br_f (by decide) (Z0 (by simp [fw_sa, fw_fin, f])))))
theorem fy_s11 {post : Int32 → SY → Prop} {j : Nat} {S FL x15 z0 : Int32} (hj : j < 16) (hx : (FL = 2 ∧ x15 = 1 ∧ z0 = 0) ∨ (FL = 6 ∧ x15 = 0 ∧ z0 = 1) ∨ (¬ FL = 2 ∧ ¬ FL = 6 ∧ x15 = 0 ∧ z0 = 0))
    (Z0 : fw_sa 1 1 FL S (cn1 j) = 0 → wY_packet_552 post S (nI j) 1 (-1) rc cc da (nI n) (nI m) ck fd rS rD rP rA cp cs ct cd cu cst cx cn0 cn1) (Z1 : ∀ x, fw_sa 1 1 FL S (cn1 j) = x → ¬ x = 0 → wY_packet_552 post S (nI j) 1 x rc cc da (nI n) (nI m) ck fd rS rD rP rA cp cs ct cd cu cst cx cn0 cn1) :
    wY_packet_251 post S FL (nI j) 1 1 (-1) x15 z0 rc cc da (nI n) (nI m) ck fd rS rD rP rA cp cs ct cd cu cst cx cn0 cn1 := by
  exact br_t rfl (br_f (by decide) (br_t rfl (br_c (fun f => Z1 2 (by simp [fw_sa, fw_fin, f]) (by decide)) (fun f => Z0 (by simp [fw_sa, fw_fin, f])))))
theorem fy_s20 {post : Int32 → SY → Prop} {j : Nat} {S FL x15 z0 : Int32} (hj : j < 16) (hx : (FL = 2 ∧ x15 = 1 ∧ z0 = 0) ∨ (FL = 6 ∧ x15 = 0 ∧ z0 = 1) ∨ (¬ FL = 2 ∧ ¬ FL = 6 ∧ x15 = 0 ∧ z0 = 0))
    (Z0 : fw_sa 2 0 FL S (cn0 j) = 0 → wY_packet_552 post S (nI j) 0 (-1) rc cc da (nI n) (nI m) ck fd rS rD rP rA cp cs ct cd cu cst cx cn0 cn1) (Z1 : ∀ x, fw_sa 2 0 FL S (cn0 j) = x → ¬ x = 0 → wY_packet_552 post S (nI j) 0 x rc cc da (nI n) (nI m) ck fd rS rD rP rA cp cs ct cd cu cst cx cn0 cn1) :
    wY_packet_251 post S FL (nI j) 0 2 (-1) x15 z0 rc cc da (nI n) (nI m) ck fd rS rD rP rA cp cs ct cd cu cst cx cn0 cn1 := by
  rcases hx with ⟨f, h1, h2⟩ | ⟨f, h1, h2⟩ | ⟨f, f', h1, h2⟩
  · subst h1 h2
    exact br_f (by decide) (br_t rfl (br_f (by decide) (br_t rfl (br_f (by decide) (fy_iw0 hj (fw_br (fun b => Z0 (by simp [fw_sa, fw_fin, f, b])) (fun b => Z1 3 (by simp [fw_sa, fw_fin, f, b]) (by decide))))))))
  · subst h1 h2
    exact br_f (by decide) (br_t rfl (br_f (by decide) (br_t rfl (br_t rfl (Z0 (by simp [fw_sa, fw_fin, f]))))))
  · subst h1 h2
    exact br_f (by decide) (br_t rfl (br_f (by decide) (br_t rfl (br_t rfl (Z0 (by simp [fw_sa, fw_fin, f]))))))
theorem fy_s21 {post : Int32 → SY → Prop} {j : Nat} {S FL x15 z0 : Int32} (hj : j < 16) (hx : (FL = 2 ∧ x15 = 1 ∧ z0 = 0) ∨ (FL = 6 ∧ x15 = 0 ∧ z0 = 1) ∨ (¬ FL = 2 ∧ ¬ FL = 6 ∧ x15 = 0 ∧ z0 = 0))
    (Z0 : fw_sa 2 1 FL S (cn1 j) = 0 → wY_packet_552 post S (nI j) 1 (-1) rc cc da (nI n) (nI m) ck fd rS rD rP rA cp cs ct cd cu cst cx cn0 cn1) (Z1 : ∀ x, fw_sa 2 1 FL S (cn1 j) = x → ¬ x = 0 → wY_packet_552 post S (nI j) 1 x rc cc da (nI n) (nI m) ck fd rS rD rP rA cp cs ct cd cu cst cx cn0 cn1) :
    wY_packet_251 post S FL (nI j) 1 2 (-1) x15 z0 rc cc da (nI n) (nI m) ck fd rS rD rP rA cp cs ct cd cu cst cx cn0 cn1 := by
  exact br_f (by decide) (br_t rfl (br_t rfl (br_c (fun f => fy_rt1 hj (fw_br (fun b => br_f (by decide) (Z0 (by simp [fw_sa, fw_fin, f, b]))) (fun b => Z1 2 (by simp [fw_sa, fw_fin, f, b]) (by decide)))) (fun f => br_f (by decide) (Z0 (by simp [fw_sa, fw_fin, f]))))))
theorem fy_s30 {post : Int32 → SY → Prop} {j : Nat} {S FL x15 z0 : Int32} (hj : j < 16) (hx : (FL = 2 ∧ x15 = 1 ∧ z0 = 0) ∨ (FL = 6 ∧ x15 = 0 ∧ z0 = 1) ∨ (¬ FL = 2 ∧ ¬ FL = 6 ∧ x15 = 0 ∧ z0 = 0))
    (Z0 : fw_sa 3 0 FL S (cn0 j) = 0 → wY_packet_552 post S (nI j) 0 (-1) rc cc da (nI n) (nI m) ck fd rS rD rP rA cp cs ct cd cu cst cx cn0 cn1) (Z1 : ∀ x, fw_sa 3 0 FL S (cn0 j) = x → ¬ x = 0 → wY_packet_552 post S (nI j) 0 x rc cc da (nI n) (nI m) ck fd rS rD rP rA cp cs ct cd cu cst cx cn0 cn1) :
    wY_packet_251 post S FL (nI j) 0 3 (-1) x15 z0 rc cc da (nI n) (nI m) ck fd rS rD rP rA cp cs ct cd cu cst cx cn0 cn1 := by
  refine br_f (by decide) (br_f (by decide) (fy_iw0 hj (fw_br (fun b => Z0 (by simp [fw_sa, fw_fin, b])) (fun b => ?_))))
  rcases hx with ⟨f, h1, h2⟩ | ⟨f, h1, h2⟩ | ⟨f, f', h1, h2⟩
  · subst h1 h2
    exact br_t rfl (br_f (by decide) (Z1 3 (by simp [fw_sa, fw_fin, f, b]) (by decide)))
  · subst h1 h2
    exact br_t rfl (br_t rfl (br_f (by decide) (br_t rfl (Z1 4 (by simp [fw_sa, fw_fin, f, b]) (by decide)))))
  · subst h1 h2
    exact br_t rfl (br_t rfl (br_t rfl (Z0 (by simp [fw_sa, fw_fin, f, f', b]))))
theorem fy_s31 {post : Int32 → SY → Prop} {j : Nat} {S FL x15 z0 : Int32} (hj : j < 16) (hx : (FL = 2 ∧ x15 = 1 ∧ z0 = 0) ∨ (FL = 6 ∧ x15 = 0 ∧ z0 = 1) ∨ (¬ FL = 2 ∧ ¬ FL = 6 ∧ x15 = 0 ∧ z0 = 0))
    (Z0 : fw_sa 3 1 FL S (cn1 j) = 0 → wY_packet_552 post S (nI j) 1 (-1) rc cc da (nI n) (nI m) ck fd rS rD rP rA cp cs ct cd cu cst cx cn0 cn1) (Z1 : ∀ x, fw_sa 3 1 FL S (cn1 j) = x → ¬ x = 0 → wY_packet_552 post S (nI j) 1 x rc cc da (nI n) (nI m) ck fd rS rD rP rA cp cs ct cd cu cst cx cn0 cn1) :
    wY_packet_251 post S FL (nI j) 1 3 (-1) x15 z0 rc cc da (nI n) (nI m) ck fd rS rD rP rA cp cs ct cd cu cst cx cn0 cn1 := by
  refine br_f (by decide) (br_f (by decide) (fy_iw1 hj (fw_br (fun b => Z0 (by simp [fw_sa, fw_fin, b])) (fun b => ?_))))
  rcases hx with ⟨f, h1, h2⟩ | ⟨f, h1, h2⟩ | ⟨f, f', h1, h2⟩
  · subst h1 h2
    exact br_t rfl (br_f (by decide) (Z1 3 (by simp [fw_sa, fw_fin, f, b]) (by decide)))
  · subst h1 h2
    exact br_t rfl (br_t rfl (br_f (by decide) (br_f (by decide) (Z1 5 (by simp [fw_sa, fw_fin, f, b]) (by decide)))))
  · subst h1 h2
    exact br_t rfl (br_t rfl (br_t rfl (Z0 (by simp [fw_sa, fw_fin, f, f', b]))))
theorem fy_s40 {post : Int32 → SY → Prop} {j : Nat} {S FL x15 z0 : Int32} (hj : j < 16) (hx : (FL = 2 ∧ x15 = 1 ∧ z0 = 0) ∨ (FL = 6 ∧ x15 = 0 ∧ z0 = 1) ∨ (¬ FL = 2 ∧ ¬ FL = 6 ∧ x15 = 0 ∧ z0 = 0))
    (Z0 : fw_sa 4 0 FL S (cn0 j) = 0 → wY_packet_552 post S (nI j) 0 (-1) rc cc da (nI n) (nI m) ck fd rS rD rP rA cp cs ct cd cu cst cx cn0 cn1) (Z1 : ∀ x, fw_sa 4 0 FL S (cn0 j) = x → ¬ x = 0 → wY_packet_552 post S (nI j) 0 x rc cc da (nI n) (nI m) ck fd rS rD rP rA cp cs ct cd cu cst cx cn0 cn1) :
    wY_packet_251 post S FL (nI j) 0 4 (-1) x15 z0 rc cc da (nI n) (nI m) ck fd rS rD rP rA cp cs ct cd cu cst cx cn0 cn1 := by
  refine br_f (by decide) (br_f (by decide) (fy_iw0 hj (fw_br (fun b => Z0 (by simp [fw_sa, fw_fin, b])) (fun b => ?_))))
  rcases hx with ⟨f, h1, h2⟩ | ⟨f, h1, h2⟩ | ⟨f, f', h1, h2⟩
  · subst h1 h2
    exact br_f (by decide) (br_t rfl (br_f (by decide) (Z1 4 (by simp [fw_sa, fw_fin, f, b]) (by decide))))
  · subst h1 h2
    exact br_f (by decide) (br_t rfl (br_t rfl (br_f (by decide) (br_t rfl (Z1 4 (by simp [fw_sa, fw_fin, f, b]) (by decide))))))
  · subst h1 h2
    exact br_f (by decide) (br_t rfl (br_t rfl (br_t rfl (Z0 (by simp [fw_sa, fw_fin, f, f', b])))))
theorem fy_s41 {post : Int32 → SY → Prop} {j : Nat} {S FL x15 z0 : Int32} (hj : j < 16) (hx : (FL = 2 ∧ x15 = 1 ∧ z0 = 0) ∨ (FL = 6 ∧ x15 = 0 ∧ z0 = 1) ∨ (¬ FL = 2 ∧ ¬ FL = 6 ∧ x15 = 0 ∧ z0 = 0))
    (Z0 : fw_sa 4 1 FL S (cn1 j) = 0 → wY_packet_552 post S (nI j) 1 (-1) rc cc da (nI n) (nI m) ck fd rS rD rP rA cp cs ct cd cu cst cx cn0 cn1) (Z1 : ∀ x, fw_sa 4 1 FL S (cn1 j) = x → ¬ x = 0 → wY_packet_552 post S (nI j) 1 x rc cc da (nI n) (nI m) ck fd rS rD rP rA cp cs ct cd cu cst cx cn0 cn1) :
    wY_packet_251 post S FL (nI j) 1 4 (-1) x15 z0 rc cc da (nI n) (nI m) ck fd rS rD rP rA cp cs ct cd cu cst cx cn0 cn1 := by
  refine br_f (by decide) (br_f (by decide) (fy_iw1 hj (fw_br (fun b => Z0 (by simp [fw_sa, fw_fin, b])) (fun b => ?_))))
  rcases hx with ⟨f, h1, h2⟩ | ⟨f, h1, h2⟩ | ⟨f, f', h1, h2⟩
  · subst h1 h2
    exact br_f (by decide) (br_t rfl (br_f (by decide) (Z1 4 (by simp [fw_sa, fw_fin, f, b]) (by decide))))
  · subst h1 h2
    exact br_f (by decide) (br_t rfl (br_t rfl (br_f (by decide) (br_f (by decide) (Z1 6 (by simp [fw_sa, fw_fin, f, b]) (by decide))))))
  · subst h1 h2
    exact br_f (by decide) (br_t rfl (br_t rfl (br_t rfl (Z0 (by simp [fw_sa, fw_fin, f, f', b])))))
theorem fy_s50 {post : Int32 → SY → Prop} {j : Nat} {S FL x15 z0 : Int32} (hj : j < 16) (hx : (FL = 2 ∧ x15 = 1 ∧ z0 = 0) ∨ (FL = 6 ∧ x15 = 0 ∧ z0 = 1) ∨ (¬ FL = 2 ∧ ¬ FL = 6 ∧ x15 = 0 ∧ z0 = 0))
    (Z0 : fw_sa 5 0 FL S (cn0 j) = 0 → wY_packet_552 post S (nI j) 0 (-1) rc cc da (nI n) (nI m) ck fd rS rD rP rA cp cs ct cd cu cst cx cn0 cn1) (Z1 : ∀ x, fw_sa 5 0 FL S (cn0 j) = x → ¬ x = 0 → wY_packet_552 post S (nI j) 0 x rc cc da (nI n) (nI m) ck fd rS rD rP rA cp cs ct cd cu cst cx cn0 cn1) :
    wY_packet_251 post S FL (nI j) 0 5 (-1) x15 z0 rc cc da (nI n) (nI m) ck fd rS rD rP rA cp cs ct cd cu cst cx cn0 cn1 := by
  refine br_f (by decide) (br_f (by decide) (fy_iw0 hj (fw_br (fun b => Z0 (by simp [fw_sa, fw_fin, b])) (fun b => ?_))))
  rcases hx with ⟨f, h1, h2⟩ | ⟨f, h1, h2⟩ | ⟨f, f', h1, h2⟩
  · subst h1 h2
    exact br_f (by decide) (br_f (by decide) (br_t rfl (br_f (by decide) (Z1 5 (by simp [fw_sa, fw_fin, f, b]) (by decide)))))
  · subst h1 h2
    exact br_f (by decide) (br_f (by decide) (br_t rfl (br_t rfl (br_f (by decide) (br_f (by decide) (Z1 6 (by simp [fw_sa, fw_fin, f, b]) (by decide)))))))
  · subst h1 h2
    exact br_f (by decide) (br_f (by decide) (br_t rfl (br_t rfl (br_t rfl (Z0 (by simp [fw_sa, fw_fin, f, f', b]))))))
theorem fy_s51 {post : Int32 → SY → Prop} {j : Nat} {S FL x15 z0 : Int32} (hj : j < 16) (hx : (FL = 2 ∧ x15 = 1 ∧ z0 = 0) ∨ (FL = 6 ∧ x15 = 0 ∧ z0 = 1) ∨ (¬ FL = 2 ∧ ¬ FL = 6 ∧ x15 = 0 ∧ z0 = 0))
    (Z0 : fw_sa 5 1 FL S (cn1 j) = 0 → wY_packet_552 post S (nI j) 1 (-1) rc cc da (nI n) (nI m) ck fd rS rD rP rA cp cs ct cd cu cst cx cn0 cn1) (Z1 : ∀ x, fw_sa 5 1 FL S (cn1 j) = x → ¬ x = 0 → wY_packet_552 post S (nI j) 1 x rc cc da (nI n) (nI m) ck fd rS rD rP rA cp cs ct cd cu cst cx cn0 cn1) :
    wY_packet_251 post S FL (nI j) 1 5 (-1) x15 z0 rc cc da (nI n) (nI m) ck fd rS rD rP rA cp cs ct cd cu cst cx cn0 cn1 := by
  refine br_f (by decide) (br_f (by decide) (fy_iw1 hj (fw_br (fun b => Z0 (by simp [fw_sa, fw_fin, b])) (fun b => ?_))))
  rcases hx with ⟨f, h1, h2⟩ | ⟨f, h1, h2⟩ | ⟨f, f', h1, h2⟩
  · subst h1 h2
    exact br_f (by decide) (br_f (by decide) (br_t rfl (br_f (by decide) (Z1 5 (by simp [fw_sa, fw_fin, f, b]) (by decide)))))
  · subst h1 h2
    exact br_f (by decide) (br_f (by decide) (br_t rfl (br_t rfl (br_f (by decide) (br_t rfl (Z1 5 (by simp [fw_sa, fw_fin, f, b]) (by decide)))))))
  · subst h1 h2
    exact br_f (by decide) (br_f (by decide) (br_t rfl (br_t rfl (br_t rfl (Z0 (by simp [fw_sa, fw_fin, f, f', b]))))))
theorem fy_s60 {post : Int32 → SY → Prop} {j : Nat} {S FL x15 z0 : Int32} (hj : j < 16) (hx : (FL = 2 ∧ x15 = 1 ∧ z0 = 0) ∨ (FL = 6 ∧ x15 = 0 ∧ z0 = 1) ∨ (¬ FL = 2 ∧ ¬ FL = 6 ∧ x15 = 0 ∧ z0 = 0))
    (Z0 : fw_sa 6 0 FL S (cn0 j) = 0 → wY_packet_552 post S (nI j) 0 (-1) rc cc da (nI n) (nI m) ck fd rS rD rP rA cp cs ct cd cu cst cx cn0 cn1) (Z1 : ∀ x, fw_sa 6 0 FL S (cn0 j) = x → ¬ x = 0 → wY_packet_552 post S (nI j) 0 x rc cc da (nI n) (nI m) ck fd rS rD rP rA cp cs ct cd cu cst cx cn0 cn1) :
    wY_packet_251 post S FL (nI j) 0 6 (-1) x15 z0 rc cc da (nI n) (nI m) ck fd rS rD rP rA cp cs ct cd cu cst cx cn0 cn1 := by
  refine br_f (by decide) (br_f (by decide) (fy_iw0 hj (fw_br (fun b => Z0 (by simp [fw_sa, fw_fin, b])) (fun b => ?_))))
  rcases hx with ⟨f, h1, h2⟩ | ⟨f, h1, h2⟩ | ⟨f, f', h1, h2⟩
  · subst h1 h2
    exact br_f (by decide) (br_f (by decide) (br_f (by decide) (br_t rfl (br_f (by decide) (Z1 7 (by simp [fw_sa, fw_fin, f, b]) (by decide))))))
  · subst h1 h2
    exact br_f (by decide) (br_f (by decide) (br_f (by decide) (br_t rfl (br_t rfl (br_f (by decide) (Z1 6 (by simp [fw_sa, fw_fin, f, b]) (by decide)))))))
  · subst h1 h2
    exact br_f (by decide) (br_f (by decide) (br_f (by decide) (br_t rfl (br_t rfl (br_t rfl (Z0 (by simp [fw_sa, fw_fin, f, f', b])))))))
theorem fy_s61 {post : Int32 → SY → Prop} {j : Nat} {S FL x15 z0 : Int32} (hj : j < 16) (hx : (FL = 2 ∧ x15 = 1 ∧ z0 = 0) ∨ (FL = 6 ∧ x15 = 0 ∧ z0 = 1) ∨ (¬ FL = 2 ∧ ¬ FL = 6 ∧ x15 = 0 ∧ z0 = 0))
    (Z0 : fw_sa 6 1 FL S (cn1 j) = 0 → wY_packet_552 post S (nI j) 1 (-1) rc cc da (nI n) (nI m) ck fd rS rD rP rA cp cs ct cd cu cst cx cn0 cn1) (Z1 : ∀ x, fw_sa 6 1 FL S (cn1 j) = x → ¬ x = 0 → wY_packet_552 post S (nI j) 1 x rc cc da (nI n) (nI m) ck fd rS rD rP rA cp cs ct cd cu cst cx cn0 cn1) :
    wY_packet_251 post S FL (nI j) 1 6 (-1) x15 z0 rc cc da (nI n) (nI m) ck fd rS rD rP rA cp cs ct cd cu cst cx cn0 cn1 := by
  refine br_f (by decide) (br_f (by decide) (fy_iw1 hj (fw_br (fun b => Z0 (by simp [fw_sa, fw_fin, b])) (fun b => ?_))))
  rcases hx with ⟨f, h1, h2⟩ | ⟨f, h1, h2⟩ | ⟨f, f', h1, h2⟩
  · subst h1 h2
    exact br_f (by decide) (br_f (by decide) (br_f (by decide) (br_t rfl (br_f (by decide) (Z1 7 (by simp [fw_sa, fw_fin, f, b]) (by decide))))))
  · subst h1 h2
    exact br_f (by decide) (br_f (by decide) (br_f (by decide) (br_t rfl (br_t rfl (br_f (by decide) (Z1 6 (by simp [fw_sa, fw_fin, f, b]) (by decide)))))))
  · subst h1 h2
    exact br_f (by decide) (br_f (by decide) (br_f (by decide) (br_t rfl (br_t rfl (br_t rfl (Z0 (by simp [fw_sa, fw_fin, f, f', b])))))))
theorem fy_s70 {post : Int32 → SY → Prop} {j : Nat} {S FL x15 z0 : Int32} (hj : j < 16) (hx : (FL = 2 ∧ x15 = 1 ∧ z0 = 0) ∨ (FL = 6 ∧ x15 = 0 ∧ z0 = 1) ∨ (¬ FL = 2 ∧ ¬ FL = 6 ∧ x15 = 0 ∧ z0 = 0))
    (Z0 : fw_sa 7 0 FL S (cn0 j) = 0 → wY_packet_552 post S (nI j) 0 (-1) rc cc da (nI n) (nI m) ck fd rS rD rP rA cp cs ct cd cu cst cx cn0 cn1) (Z1 : ∀ x, fw_sa 7 0 FL S (cn0 j) = x → ¬ x = 0 → wY_packet_552 post S (nI j) 0 x rc cc da (nI n) (nI m) ck fd rS rD rP rA cp cs ct cd cu cst cx cn0 cn1) :
    wY_packet_251 post S FL (nI j) 0 7 (-1) x15 z0 rc cc da (nI n) (nI m) ck fd rS rD rP rA cp cs ct cd cu cst cx cn0 cn1 := by
  refine br_f (by decide) (br_f (by decide) (fy_iw0 hj (fw_br (fun b => Z0 (by simp [fw_sa, fw_fin, b])) (fun b => ?_))))
  rcases hx with ⟨f, h1, h2⟩ | ⟨f, h1, h2⟩ | ⟨f, f', h1, h2⟩
  · subst h1 h2
    exact br_f (by decide) (br_f (by decide) (br_f (by decide) (br_f (by decide) (br_t rfl (br_f (by decide) (Z1 7 (by simp [fw_sa, fw_fin, f, b]) (by decide)))))))
  · subst h1 h2
    exact br_f (by decide) (br_f (by decide) (br_f (by decide) (br_f (by decide) (br_t rfl (br_t rfl (br_f (by decide) (Z1 7 (by simp [fw_sa, fw_fin, f, b]) (by decide))))))))
  · subst h1 h2
    exact br_f (by decide) (br_f (by decide) (br_f (by decide) (br_f (by decide) (br_t rfl (br_t rfl (br_t rfl (Z0 (by simp [fw_sa, fw_fin, f, f', b]))))))))
theorem fy_s71 {post : Int32 → SY → Prop} {j : Nat} {S FL x15 z0 : Int32} (hj : j < 16) (hx : (FL = 2 ∧ x15 = 1 ∧ z0 = 0) ∨ (FL = 6 ∧ x15 = 0 ∧ z0 = 1) ∨ (¬ FL = 2 ∧ ¬ FL = 6 ∧ x15 = 0 ∧ z0 = 0))
    (Z0 : fw_sa 7 1 FL S (cn1 j) = 0 → wY_packet_552 post S (nI j) 1 (-1) rc cc da (nI n) (nI m) ck fd rS rD rP rA cp cs ct cd cu cst cx cn0 cn1) (Z1 : ∀ x, fw_sa 7 1 FL S (cn1 j) = x → ¬ x = 0 → wY_packet_552 post S (nI j) 1 x rc cc da (nI n) (nI m) ck fd rS rD rP rA cp cs ct cd cu cst cx cn0 cn1) :
    wY_packet_251 post S FL (nI j) 1 7 (-1) x15 z0 rc cc da (nI n) (nI m) ck fd rS rD rP rA cp cs ct cd cu cst cx cn0 cn1 := by
  refine br_f (by decide) (br_f (by decide) (fy_iw1 hj (fw_br (fun b => Z0 (by simp [fw_sa, fw_fin, b])) (fun b => ?_))))
  rcases hx with ⟨f, h1, h2⟩ | ⟨f, h1, h2⟩ | ⟨f, f', h1, h2⟩
  · subst h1 h2
    exact br_f (by decide) (br_f (by decide) (br_f (by decide) (br_f (by decide) (br_t rfl (br_f (by decide) (Z1 7 (by simp [fw_sa, fw_fin, f, b]) (by decide)))))))
  · subst h1 h2
    exact br_f (by decide) (br_f (by decide) (br_f (by decide) (br_f (by decide) (br_t rfl (br_t rfl (br_f (by decide) (Z1 7 (by simp [fw_sa, fw_fin, f, b]) (by decide))))))))
  · subst h1 h2
    exact br_f (by decide) (br_f (by decide) (br_f (by decide) (br_f (by decide) (br_t rfl (br_t rfl (br_t rfl (Z0 (by simp [fw_sa, fw_fin, f, f', b]))))))))
end PY
