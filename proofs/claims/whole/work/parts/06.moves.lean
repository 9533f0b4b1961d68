theorem fw_mg {a b c d e f g h k a' b' c' f' g' h' k' : Int32} (h1 : a = a') (h2 : b + 16 * d = b') (h3 : c + 16 * e = c') (h4 : f = f') (h5 : g = g')
    (h6 : (if a = 1 then -1 else h) = h') (h7 : (if a = 1 then -1 else k) = k') : fw_g (a, b, c, d, e, f, g, h, k) = (a', b', c', f', g', h', k') := by
  subst h1 h2 h3 h4 h5 h6 h7
  rfl
section MV
variable {pr ad po st ex nx cp cs ct cd cu cst cx cn0 cn1 : Nat → Int32} {m : Nat}
theorem fw_gx {i j : Nat} (hg : fw_g (fw_YT cp cs ct cd cu cst cx cn0 cn1 j) = fw_XT pr ad po st ex nx i) :
    cp j = pr i ∧ cs j + 16 * cd j = ad i ∧ ct j + 16 * cu j = po i ∧ cst j = st i ∧ cx j = ex i ∧ (if cp j = 1 then -1 else cn0 j) = nx (2 * i) ∧ (if cp j = 1 then -1 else cn1 j) = nx (2 * i + 1) := by
  have h : (cp j, cs j + 16 * cd j, ct j + 16 * cu j, cst j, cx j, (if cp j = 1 then -1 else cn0 j), (if cp j = 1 then -1 else cn1 j)) = (pr i, ad i, po i, st i, ex i, nx (2 * i), nx (2 * i + 1)) := hg
  simp only [Prod.mk.injEq] at h
  exact h
theorem fw_okx {i : Nat} (E : fw_E (fw_L (fw_XT pr ad po st ex nx) m) (fw_L (fw_YT cp cs ct cd cu cst cx cn0 cn1) m)) (hi : i < m) :
    (pr i = 0 ∨ pr i = 1) ∧ fw_r 256 (ad i) ∧ fw_r 256 (po i) ∧ (pr i = 0 → ∃ k : Nat, k < 7 ∧ st i = nI (k + 1)) ∧ fw_N (nx (2 * i)) ∧ fw_N (nx (2 * i + 1)) ∧ (pr i = 1 → nx (2 * i) = -1 ∧ nx (2 * i + 1) = -1) :=
  E.2.1 _ (fw_L_in _ hi)
theorem fw_oky {j : Nat} (E : fw_E (fw_L (fw_XT pr ad po st ex nx) m) (fw_L (fw_YT cp cs ct cd cu cst cx cn0 cn1) m)) (hj : j < m) :
    fw_r 16 (cs j) ∧ fw_r 16 (ct j) ∧ fw_r 16 (cd j) ∧ fw_r 16 (cu j) :=
  E.2.2.1 _ (fw_L_in _ hj)
theorem fw_udp {i j : Nat} (E : fw_E (fw_L (fw_XT pr ad po st ex nx) m) (fw_L (fw_YT cp cs ct cd cu cst cx cn0 cn1) m)) (hi : i < m) (hj : j < m)
    (hg : fw_g (fw_YT cp cs ct cd cu cst cx cn0 cn1 j) = fw_XT pr ad po st ex nx i) (hp : pr i = 1) (s e : Int32) :
    fw_E (fw_L (fw_XT pr ad po (upd st i s) (upd ex i e) nx) m) (fw_L (fw_YT cp cs ct cd cu (upd cst j s) (upd cx j e) cn0 cn1) m) := by
  obtain ⟨g1, g2, g3, g4, g5, g6, g7⟩ := fw_gx hg
  obtain ⟨o1, o2, o3, o4, o5, o6, o7⟩ := fw_okx E hi
  refine fw_E_upd E (fw_L_in _ hi) (fw_set m hi (fun _ _ h => fw_XU_n h) fw_XU_s) (fw_set m hj (fun _ _ h => fw_YU_n h) fw_YU_s) hg (fw_mg g1 g2 g3 rfl rfl g6 g7) ?_ (fw_oky E hj) rfl
  exact ⟨o1, o2, o3, fun z => absurd (hp.symm.trans z) (by decide), o5, o6, o7⟩
theorem fw_tcp0 {i j k : Nat} (E : fw_E (fw_L (fw_XT pr ad po st ex nx) m) (fw_L (fw_YT cp cs ct cd cu cst cx cn0 cn1) m)) (hi : i < m) (hj : j < m)
    (hg : fw_g (fw_YT cp cs ct cd cu cst cx cn0 cn1 j) = fw_XT pr ad po st ex nx i) (hp : pr i = 0) (e q : Int32) (hk : k < 7) (hq : fw_r 256 q) :
    fw_E (fw_L (fw_XT pr ad po (upd st i (nI (k + 1))) (upd ex i e) (upd nx (2 * i) q)) m) (fw_L (fw_YT cp cs ct cd cu (upd cst j (nI (k + 1))) (upd cx j e) (upd cn0 j q) cn1) m) := by
  obtain ⟨g1, g2, g3, g4, g5, g6, g7⟩ := fw_gx hg
  obtain ⟨o1, o2, o3, o4, o5, o6, o7⟩ := fw_okx E hi
  have h0 : ¬ cp j = 1 := by rw [g1, hp]; decide
  refine fw_E_upd E (fw_L_in _ hi) (fw_set m hi (fun _ _ h => fw_XV_n (k := 0) h (by decide)) fw_XV_0) (fw_set m hj (fun _ _ h => fw_YV_n0 h) fw_YV_s0) hg (fw_mg g1 g2 g3 rfl rfl (if_neg h0) g7) ?_ (fw_oky E hj) rfl
  exact ⟨o1, o2, o3, fun _ => ⟨k, hk, rfl⟩, Or.inr hq, o6, fun z => absurd (hp.symm.trans z) (by decide)⟩
theorem fw_tcp1 {i j k : Nat} (E : fw_E (fw_L (fw_XT pr ad po st ex nx) m) (fw_L (fw_YT cp cs ct cd cu cst cx cn0 cn1) m)) (hi : i < m) (hj : j < m)
    (hg : fw_g (fw_YT cp cs ct cd cu cst cx cn0 cn1 j) = fw_XT pr ad po st ex nx i) (hp : pr i = 0) (e q : Int32) (hk : k < 7) (hq : fw_r 256 q) :
    fw_E (fw_L (fw_XT pr ad po (upd st i (nI (k + 1))) (upd ex i e) (upd nx (2 * i + 1) q)) m) (fw_L (fw_YT cp cs ct cd cu (upd cst j (nI (k + 1))) (upd cx j e) cn0 (upd cn1 j q)) m) := by
  obtain ⟨g1, g2, g3, g4, g5, g6, g7⟩ := fw_gx hg
  obtain ⟨o1, o2, o3, o4, o5, o6, o7⟩ := fw_okx E hi
  have h0 : ¬ cp j = 1 := by rw [g1, hp]; decide
  refine fw_E_upd E (fw_L_in _ hi) (fw_set m hi (fun _ _ h => fw_XV_n (k := 1) h (by decide)) fw_XV_1) (fw_set m hj (fun _ _ h => fw_YV_n1 h) fw_YV_s1) hg (fw_mg g1 g2 g3 rfl rfl g6 (if_neg h0)) ?_ (fw_oky E hj) rfl
  exact ⟨o1, o2, o3, fun _ => ⟨k, hk, rfl⟩, o5, Or.inr hq, fun z => absurd (hp.symm.trans z) (by decide)⟩
theorem fw_new {p s e nx0 nx1 ny0 ny1 : Int32} {a q : Nat} (E : fw_E (fw_L (fw_XT pr ad po st ex nx) m) (fw_L (fw_YT cp cs ct cd cu cst cx cn0 cn1) m))
    (hn : fw_none (fw_XT pr ad po st ex nx) m p a q) (ha : a < 256) (hq : q < 256) (ok : fw_okX (p, nI a, nI q, s, e, nx0, nx1))
    (h6 : (if p = 1 then -1 else ny0) = nx0) (h7 : (if p = 1 then -1 else ny1) = nx1) :
    fw_E (fw_L (fw_XT (upd pr m p) (upd ad m (nI a)) (upd po m (nI q)) (upd st m s) (upd ex m e) (upd (upd nx (2 * m) nx0) (2 * m + 1) nx1)) (m + 1))
      (fw_L (fw_YT (upd cp m p) (upd cs m (nI (a % 16))) (upd ct m (nI (q % 16))) (upd cd m (nI (a / 16))) (upd cu m (nI (q / 16))) (upd cst m s) (upd cx m e) (upd cn0 m ny0) (upd cn1 m ny1)) (m + 1)) := by
  refine fw_E_new E (fw_app (fun j hj => fw_XT_n (by omega)) fw_XT_s) (fw_app (fun j hj => fw_YT_n (by omega)) fw_YT_s) (fw_mg rfl ?_ ?_ rfl rfl h6 h7) ok ?_ ?_
  · exact (fw_pair ⟨_, Nat.mod_lt _ (by decide), rfl⟩ ⟨a / 16, by omega, rfl⟩ ha).mpr ⟨rfl, rfl⟩
  · exact (fw_pair ⟨_, Nat.mod_lt _ (by decide), rfl⟩ ⟨q / 16, by omega, rfl⟩ hq).mpr ⟨rfl, rfl⟩
  · exact ⟨⟨_, Nat.mod_lt _ (by decide), rfl⟩, ⟨_, Nat.mod_lt _ (by decide), rfl⟩, ⟨a / 16, by omega, rfl⟩, ⟨q / 16, by omega, rfl⟩⟩
  · intro z hz
    obtain ⟨j, hj, rfl⟩ := fw_L_mem.mp hz
    have h := hn 0 (by decide) j hj
    rw [fw_K0] at h
    exact fun c => h c.symm
/-- what the reference's search finds is what the component's found -/
theorem fw_found {p : Int32} {a q i d j : Nat} (E : fw_E (fw_L (fw_XT pr ad po st ex nx) m) (fw_L (fw_YT cp cs ct cd cu cst cx cn0 cn1) m))
    (F : fw_F (fw_XT pr ad po st ex nx) m p a q i d) (hj : j < m) (hk : fw_key (fw_g (fw_YT cp cs ct cd cu cst cx cn0 cn1 j)) = fw_K p a q d) :
    fw_g (fw_YT cp cs ct cd cu cst cx cn0 cn1 j) = fw_XT pr ad po st ex nx i :=
  fw_E_same E (fw_L_in _ F.1) (fw_L_in _ hj) (F.2.2.1.trans hk.symm)
/-- a key that the component has, the reference has -/
theorem fw_has {i : Nat} (E : fw_E (fw_L (fw_XT pr ad po st ex nx) m) (fw_L (fw_YT cp cs ct cd cu cst cx cn0 cn1) m)) (hi : i < m) :
    ∃ j, j < m ∧ fw_key (fw_g (fw_YT cp cs ct cd cu cst cx cn0 cn1 j)) = fw_key (fw_XT pr ad po st ex nx i) := by
  obtain ⟨s, hs, e⟩ := fw_E_xy E (fw_L_in _ hi)
  obtain ⟨j, hj, rfl⟩ := fw_L_mem.mp hs
  exact ⟨j, hj, by rw [e]⟩
/-- a key that the reference has, the component has -/
theorem fw_hasY {j : Nat} (E : fw_E (fw_L (fw_XT pr ad po st ex nx) m) (fw_L (fw_YT cp cs ct cd cu cst cx cn0 cn1) m)) (hj : j < m) :
    ∃ i, i < m ∧ fw_key (fw_XT pr ad po st ex nx i) = fw_key (fw_g (fw_YT cp cs ct cd cu cst cx cn0 cn1 j)) := by
  obtain ⟨i, hi, e⟩ := fw_L_mem.mp (fw_E_yx E (fw_L_in _ hj))
  exact ⟨i, hi, by rw [e]⟩
end MV
