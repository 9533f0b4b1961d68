theorem fw_2z (i : Nat) : 2 * nI i + 0 = nI (2 * i) := by rw [Int32.add_zero]; exact pk_mul 2 i
theorem fw_dec (s : Nat) : nI s + (-1) = nI s - 1 := (Int32.sub_eq_add_neg (nI s) 1).symm
/-- an entry lasts beyond the hour -/
def fw_q (T : Int32) : fw_T → Bool := fun (_, _, _, _, e, _, _) => decide (T < e)
section TX
variable {rc cc da ck : Int32} {r pr ad po st ex nx : Nat → Int32} {n m : Nat}
theorem fx_rem {post : SX → Prop} {i m' : Nat} (hm : m' < 16) (hi : i ≤ m')
    (H : post (rc, cc, da, nI n, nI m', ck, r, upd pr i (pr m'), upd ad i (ad m'), upd po i (po m'), upd st i (st m'), upd ex i (ex m'), upd (upd nx (2 * i) (nx (2 * m'))) (2 * i + 1) (nx (2 * m' + 1)))) : wpX_removeEntry post (rc, cc, da, nI n, nI (m' + 1), ck, r, pr, ad, po, st, ex, nx) (nI i) := by
  unfold wpX_removeEntry
  dsimp only
  intro x2 e2
  rw [nI_pred] at e2
  subst e2
  have v : vp_in (nI i) 16 := vp_in_nI (by omega) (by decide)
  have v' : vp_in (nI m') 16 := vp_in_nI (by omega) (by decide)
  rw [fw_2z i, fw_2z m', fw_21 i, fw_21 m', nI_clamp (n := i) (by omega), nI_clamp (n := m') (by omega), nI_clamp (n := 2 * i) (by omega), nI_clamp (n := 2 * m') (by omega), nI_clamp (n := 2 * i + 1) (by omega), nI_clamp (n := 2 * m' + 1) (by omega)]
  have e : (upd nx (2 * i) (nx (2 * m'))) (2 * m' + 1) = nx (2 * m' + 1) := pk_un (by omega)
  refine ⟨v', v, nm_e ⟨v', v, nm_e ⟨v', v, nm_e ⟨v', v, nm_e ⟨v', v, nm_e ⟨vp_in_nI (by omega) (by decide), vp_in_nI (by omega) (by decide), nm_e ⟨vp_in_nI (by omega) (by decide), vp_in_nI (by omega) (by decide), nm_e ?_⟩⟩⟩⟩⟩⟩⟩
  rw [e]
  exact H
theorem fx_tk {post : Int32 → SX → Prop} {x2 : Int32} {l0 : List fw_T}
    (H : ∀ (c : Nat) (pr' ad' po' st' ex' nx' : Nat → Int32), c ≤ 16 → (fw_L (fw_XT pr' ad' po' st' ex' nx') c).Perm (l0.filter (fw_q ck)) → post (x2 - nI c) (rc, cc, da, nI n, nI c, ck, r, pr', ad', po', st', ex', nx')) :
    ∀ (s c : Nat) (pr' ad' po' st' ex' nx' : Nat → Int32), c ≤ 16 → fw_TI (fw_q ck) l0 (fw_XT pr' ad' po' st' ex' nx') c s → ∀ f, s < f → wX_tick_32 post x2 f (nI s - 1) rc cc da (nI n) (nI c) ck r pr' ad' po' st' ex' nx' := by
  intro s
  induction s with
  | zero =>
    intro c pr' ad' po' st' ex' nx' hc h f hf
    obtain ⟨f, rfl⟩ : ∃ g, f = g + 1 := ⟨f - 1, by omega⟩
    exact br_t (by decide) (H c pr' ad' po' st' ex' nx' hc (fw_TI_e h))
  | succ s ih =>
    intro c pr' ad' po' st' ex' nx' hc h f hf
    obtain ⟨f, rfl⟩ : ∃ g, f = g + 1 := ⟨f - 1, by omega⟩
    have hs := h.1
    rw [nI_pred, wX_tick_32]
    dsimp only
    rw [nI_clamp (n := s) (by omega)]
    refine br_f (nI_pos (by omega)) ⟨vp_in_nI (by omega) (by decide), br_c (fun e => nm_r (fw_dec s) (ih c pr' ad' po' st' ex' nx' hc (fw_TI_k h (decide_eq_true e)) f (by omega))) (fun e => ?_)⟩
    obtain ⟨c', rfl⟩ : ∃ c', c = c' + 1 := ⟨c - 1, by omega⟩
    exact fx_rem (by omega) (by omega) (nm_r (fw_dec s) (ih c' _ _ _ _ _ _ (by omega) (fw_TI_d h (decide_eq_false e) (fun j _ hn => fw_XT_n hn) (fun _ => fw_XT_s)) f (by omega)))
end TX
section TY
variable {rc cc da ck fd : Int32} {rS rD rP rA cp cs ct cd cu cst cx cn0 cn1 : Nat → Int32} {n m : Nat}
theorem fy_copy {post : SY → Prop} {a b : Nat} (ha : a < 16) (hb : b < 16)
    (H : post (rc, cc, da, nI n, nI m, ck, fd, rS, rD, rP, rA, upd cp b (cp a), upd cs b (cs a), upd ct b (ct a), upd cd b (cd a), upd cu b (cu a), upd cst b (cst a), upd cx b (cx a), upd cn0 b (cn0 a), upd cn1 b (cn1 a))) : wpY_copyConn post (rc, cc, da, nI n, nI m, ck, fd, rS, rD, rP, rA, cp, cs, ct, cd, cu, cst, cx, cn0, cn1) (nI a) (nI b) := by
  unfold wpY_copyConn
  dsimp only
  have v : vp_in (nI a) 16 := vp_in_nI (by omega) (by decide)
  have v' : vp_in (nI b) 16 := vp_in_nI (by omega) (by decide)
  rw [nI_clamp (n := a) (by omega), nI_clamp (n := b) (by omega)]
  exact ⟨v, v', nm_e ⟨v, v', nm_e ⟨v, v', nm_e ⟨v, v', nm_e ⟨v, v', nm_e ⟨v, v', nm_e ⟨v, v', nm_e ⟨v, v', nm_e ⟨v, v', nm_e H⟩⟩⟩⟩⟩⟩⟩⟩⟩
theorem fy_rc {post : SY → Prop} {f0 : Nat → fw_U} {e m' : Nat} (hm : m' < 16)
    (H : ∀ (cp' cs' ct' cd' cu' cst' cx' cn0' cn1' : Nat → Int32), fw_SH f0 (fw_YT cp' cs' ct' cd' cu' cst' cx' cn0' cn1') e m' → post (rc, cc, da, nI n, nI m', ck, fd, rS, rD, rP, rA, cp', cs', ct', cd', cu', cst', cx', cn0', cn1')) :
    ∀ (d j : Nat) (cp' cs' ct' cd' cu' cst' cx' cn0' cn1' : Nat → Int32), j + d = m' → e ≤ j → fw_SH f0 (fw_YT cp' cs' ct' cd' cu' cst' cx' cn0' cn1') e j → ∀ f, d < f → wY_removeConn_2 post f (nI j) rc cc da (nI n) (nI (m' + 1)) ck fd rS rD rP rA cp' cs' ct' cd' cu' cst' cx' cn0' cn1' := by
  intro d
  induction d with
  | zero =>
    intro j cp' cs' ct' cd' cu' cst' cx' cn0' cn1' hj he h f hf
    obtain ⟨f, rfl⟩ : ∃ g, f = g + 1 := ⟨f - 1, by omega⟩
    have e : j = m' := by omega
    subst e
    rw [wY_removeConn_2]
    dsimp only
    rw [nI_pred]
    exact br_t (nI_le (by omega) (by omega)) (nm_e (H cp' cs' ct' cd' cu' cst' cx' cn0' cn1' h))
  | succ d ih =>
    intro j cp' cs' ct' cd' cu' cst' cx' cn0' cn1' hj he h f hf
    obtain ⟨f, rfl⟩ : ∃ g, f = g + 1 := ⟨f - 1, by omega⟩
    rw [wY_removeConn_2]
    dsimp only
    rw [nI_pred, nI_1 j]
    exact br_f (nI_ge (by omega) (by omega)) (fy_copy (by omega) (by omega) (nm_e (ih (j + 1) _ _ _ _ _ _ _ _ _ (by omega) (by omega) (fw_SH_s h he fw_YT_s (fun i hi => fw_YT_n hi)) f (by omega))))
theorem fy_tk {post : Int32 → SY → Prop} {f0 : Nat → fw_U} (hm : m ≤ 16)
    (H : ∀ (w : Nat) (cp' cs' ct' cd' cu' cst' cx' cn0' cn1' : Nat → Int32), fw_UP (fw_q ck ∘ fw_g) f0 (fw_YT cp' cs' ct' cd' cu' cst' cx' cn0' cn1') m w → post (nI (m - w)) (rc, cc, da, nI n, nI w, ck, fd, rS, rD, rP, rA, cp', cs', ct', cd', cu', cst', cx', cn0', cn1')) :
    ∀ (d i w : Nat) (cp' cs' ct' cd' cu' cst' cx' cn0' cn1' : Nat → Int32), i + d = m → fw_UP (fw_q ck ∘ fw_g) f0 (fw_YT cp' cs' ct' cd' cu' cst' cx' cn0' cn1') i w → ∀ f, d < f → wY_tick_30 post f (nI w) (nI (i - w)) (nI i) rc cc da (nI n) (nI m) ck fd rS rD rP rA cp' cs' ct' cd' cu' cst' cx' cn0' cn1' := by
  intro d
  induction d with
  | zero =>
    intro i w cp' cs' ct' cd' cu' cst' cx' cn0' cn1' hi h f hf
    obtain ⟨f, rfl⟩ : ∃ g, f = g + 1 := ⟨f - 1, by omega⟩
    have e : i = m := by omega
    subst e
    exact br_t (nI_le (by omega) (by omega)) (H w cp' cs' ct' cd' cu' cst' cx' cn0' cn1' h)
  | succ d ih =>
    intro i w cp' cs' ct' cd' cu' cst' cx' cn0' cn1' hi h f hf
    obtain ⟨f, rfl⟩ : ∃ g, f = g + 1 := ⟨f - 1, by omega⟩
    have hw := h.1
    have e1 : i + 1 - (w + 1) = i - w := by omega
    have e2 : nI (i - w) + 1 = nI (i + 1 - w) := by rw [nI_1, show i - w + 1 = i + 1 - w from by omega]
    rw [wY_tick_30]
    dsimp only
    rw [nI_clamp (n := i) (by omega)]
    refine br_f (nI_ge (by omega) (by omega)) ⟨vp_in_nI (by omega) (by decide), br_c (fun e => br_c (fun ew => ?_) (fun ew => fy_copy (by omega) (by omega) ?_)) (fun e => nm_r e2 (nm_r (nI_1 i) (ih (i + 1) w cp' cs' ct' cd' cu' cst' cx' cn0' cn1' (by omega) (fw_UP_f h (decide_eq_false e)) f (by omega))))⟩
    · have ew' : w = i := (nI_eq (by omega) (by omega)).mp ew
      have h2 := ih (i + 1) (w + 1) cp' cs' ct' cd' cu' cst' cx' cn0' cn1' (by omega) (fw_UP_t h (decide_eq_true e) (by rw [ew']) (fun _ _ => rfl)) f (by omega)
      rw [e1] at h2
      exact nm_r (nI_1 w) (nm_r (nI_1 i) h2)
    · have h2 := ih (i + 1) (w + 1) _ _ _ _ _ _ _ _ _ (by omega) (fw_UP_t h (decide_eq_true e) (fw_YT_s (pr := cp') (os := cs') (op := ct') (od := cd') (oq := cu') (st := cst') (ex := cx') (n0 := cn0') (n1 := cn1')) (fun j hj => fw_YT_n hj)) f (by omega)
      rw [e1] at h2
      exact nm_r (nI_1 w) (nm_r (nI_1 i) h2)
end TY
theorem i_vc_tick {k : Nat} {u : SX} {v : SY} (I : i_Rel k u v) (hk : k + 5 ≤ 2563) (v1 : Int32) : wpX_tick (fun r u' => wpY_tick (fun r' v' => r' = r ∧ i_Rel (k + 5) u' v') v v1) u v1 := by
  have I' := I
  obtain ⟨rc, cc, n, m, da, ck, fd, r, pr, ad, po, st, ex, nx, rS, rD, rP, rA, cp, cs, ct, cd, cu, cst, cx, cn0, cn1, rfl, rfl, hrc, hcc, hnr, hmc, R, E⟩ := I
  have hm : m ≤ 16 := by omega
  unfold wpX_tick wpY_tick
  dsimp only
  refine br_c (fun a => br_t a ⟨rfl, I'⟩) (fun a => br_c (fun b => nm_e (nm_e ⟨m + 1, fx_tk (l0 := fw_L (fw_XT pr ad po st ex nx) m) (fun c pr' ad' po' st' ex' nx' hc hx => ?_) m m pr ad po st ex nx hm fw_TI_0 (m + 1) (by omega)⟩)) (fun b => br_f a (br_f b ⟨rfl, I'⟩)))
  refine br_f a (br_t b (nm_e ⟨m + 1, fy_tk (f0 := fw_YT cp cs ct cd cu cst cx cn0 cn1) hm (fun w cp' cs' ct' cd' cu' cst' cx' cn0' cn1' hy => ?_) m 0 0 cp cs ct cd cu cst cx cn0 cn1 (by omega) fw_UP_0 (m + 1) (by omega)⟩))
  obtain ⟨E', l⟩ := fw_E_tick (fw_q (ck + v1)) E hx hy.2.1
  rw [fw_L_len, fw_L_len] at l
  subst l
  have hcm := hy.1
  refine ⟨?_, ?_⟩
  · rw [pk_sub hcm]
  · exact ⟨rc, cc, n, c, da, ck + v1, fd, r, pr', ad', po', st', ex', nx', rS, rD, rP, rA, cp', cs', ct', cd', cu', cst', cx', cn0', cn1', rfl, rfl, hrc, hcc, hnr, by omega, R, E'⟩
