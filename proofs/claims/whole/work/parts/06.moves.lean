theorem fw_mg {a b c d e f g h k a' b' c' f' g' h' k' : Int32} (h1 : a = a') (h2 : b + 16 * d = b') (h3 : c + 16 * e = c') (h4 : f = f') (h5 : g = g')
    (h6 : (if a = 1 then -1 else h) = h') (h7 : (if a = 1 then -1 else k) = k') : fw_g (a, b, c, d, e, f, g, h, k) = (a', b', c', f', g', h', k') := by
  subst h1 h2 h3 h4 h5 h6 h7
  rfl
section MV
variable {pr ad po st ex nx cp cs ct cd cu cst cx cn0 cn1 : Nat → Int32} {m : Nat}
theorem fw_gx {i j : Nat} (hg : fw_g (fw_YT cp cs ct cd cu cst cx cn0 cn1 j) = fw_XT pr ad po st ex nx i) :
    cp j = pr i ∧ cs j + 16 * cd j = ad i ∧ ct j + 16 * cu j = po i ∧ cst j = st i ∧ cx j = ex i ∧ (if cp j = 1 then -1 else cn0 j) = nx (2 * i) ∧ (if cp j = 1 then -1 else cn1 j) = nx (2 * i + 1) := by
  have h : (cp j, cs j + 16 * cd j, ct j + 16 * cu j, cst j, cx j, (if cp j = 1 then -1 else cn0 j), (if cp j = 1 then -1 else cn1 j)) = (pr i, ad i, po i, st i, ex i, nx (2 * i), nx (2 * i + 1)) := hg
  simp only [Prod.mk.injEq] at h
  exact h
theorem fw_okx {i : Nat} (E : fw_E (fw_L (fw_XT pr ad po st ex nx) m) (fw_L (fw_YT cp cs ct cd cu cst cx cn0 cn1) m)) (hi : i < m) :
    (pr i = 0 ∨ pr i = 1) ∧ fw_r 256 (ad i) ∧ fw_r 256 (po i) ∧ (pr i = 0 → ∃ k : Nat, k < 7 ∧ st i = nI (k + 1)) ∧ fw_N (nx (2 * i)) ∧ fw_N (nx (2 * i + 1)) ∧ (pr i = 1 → nx (2 * i) = -1 ∧ nx (2 * i + 1) = -1) :=
  E.2.1 _ (fw_L_in _ hi)
theorem fw_oky {j : Nat} (E : fw_E (fw_L (fw_XT pr ad po st ex nx) m) (fw_L (fw_YT cp cs ct cd cu cst cx cn0 cn1) m)) (hj : j < m) :
    fw_r 16 (cs j) ∧ fw_r 16 (ct j) ∧ fw_r 16 (cd j) ∧ fw_r 16 (cu j) :=
  E.2.2.1 _ (fw_L_in _ hj)
theorem fw_udp {i j : Nat} (E : fw_E (fw_L (fw_XT pr ad po st ex nx) m) (fw_L (fw_YT cp cs ct cd cu cst cx cn0 cn1) m)) (hi : i < m) (hj : j < m)
    (hg : fw_g (fw_YT cp cs ct cd cu cst cx cn0 cn1 j) = fw_XT pr ad po st ex nx i) (hp : pr i = 1) (s e : Int32) :
    fw_E (fw_L (fw_XT pr ad po (upd st i s) (upd ex i e) nx) m) (fw_L (fw_YT cp cs ct cd cu (upd cst j s) (upd cx j e) cn0 cn1) m) := by
  obtain ⟨g1, g2, g3, g4, g5, g6, g7⟩ := fw_gx hg
  obtain ⟨o1, o2, o3, o4, o5, o6, o7⟩ := fw_okx E hi
  refine fw_E_upd E (fw_L_in _ hi) (fw_set m hi (fun _ _ h => fw_XU_n h) fw_XU_s) (fw_set m hj (fun _ _ h => fw_YU_n h) fw_YU_s) hg (fw_mg g1 g2 g3 rfl rfl g6 g7) ?_ (fw_oky E hj) rfl
  exact ⟨o1, o2, o3, fun z => absurd (hp.symm.trans z) (by decide), o5, o6, o7⟩
theorem fw_tcp0 {i j k : Nat} (E : fw_E (fw_L (fw_XT pr ad po st ex nx) m) (fw_L (fw_YT cp cs ct cd cu cst cx cn0 cn1) m)) (hi : i < m) (hj : j < m)
    (hg : fw_g (fw_YT cp cs ct cd cu cst cx cn0 cn1 j) = fw_XT pr ad po st ex nx i) (hp : pr i = 0) (e q : Int32) (hk : k < 7) (hq : fw_r 256 q) :
    fw_E (fw_L (fw_XT pr ad po (upd st i (nI (k + 1))) (upd ex i e) (upd nx (2 * i) q)) m) (fw_L (fw_YT cp cs ct cd cu (upd cst j (nI (k + 1))) (upd cx j e) (upd cn0 j q) cn1) m) := by
  obtain ⟨g1, g2, g3, g4, g5, g6, g7⟩ := fw_gx hg
  obtain ⟨o1, o2, o3, o4, o5, o6, o7⟩ := fw_okx E hi
  have h0 : ¬ cp j = 1 := by rw [g1, hp]; decide
  refine fw_E_upd E (fw_L_in _ hi) (fw_set m hi (fun _ _ h => fw_XV_n (k := 0) h (by decide)) fw_XV_0) (fw_set m hj (fun _ _ h => fw_YV_n0 h) fw_YV_s0) hg (fw_mg g1 g2 g3 rfl rfl (if_neg h0) g7) ?_ (fw_oky E hj) rfl
  exact ⟨o1, o2, o3, fun _ => ⟨k, hk, rfl⟩, Or.inr hq, o6, fun z => absurd (hp.symm.trans z) (by decide)⟩
theorem fw_tcp1 {i j k : Nat} (E : fw_E (fw_L (fw_XT pr ad po st ex nx) m) (fw_L (fw_YT cp cs ct cd cu cst cx cn0 cn1) m)) (hi : i < m) (hj : j < m)
    (hg : fw_g (fw_YT cp cs ct cd cu cst cx cn0 cn1 j) = fw_XT pr ad po st ex nx i) (hp : pr i = 0) (e q : Int32) (hk : k < 7) (hq : fw_r 256 q) :
    fw_E (fw_L (fw_XT pr ad po (upd st i (nI (k + 1))) (upd ex i e) (upd nx (2 * i + 1) q)) m) (fw_L (fw_YT cp cs ct cd cu (upd cst j (nI (k + 1))) (upd cx j e) cn0 (upd cn1 j q)) m) := by
  obtain ⟨g1, g2, g3, g4, g5, g6, g7⟩ := fw_gx hg
  obtain ⟨o1, o2, o3, o4, o5, o6, o7⟩ := fw_okx E hi
  have h0 : ¬ cp j = 1 := by rw [g1, hp]; decide
  refine fw_E_upd E (fw_L_in _ hi) (fw_set m hi (fun _ _ h => fw_XV_n (k := 1) h (by decide)) fw_XV_1) (fw_set m hj (fun _ _ h => fw_YV_n1 h) fw_YV_s1) hg (fw_mg g1 g2 g3 rfl rfl g6 (if_neg h0)) ?_ (fw_oky E hj) rfl
  exact ⟨o1, o2, o3, fun _ => ⟨k, hk, rfl⟩, o5, Or.inr hq, fun z => absurd (hp.symm.trans z) (by decide)⟩
theorem fw_new {p s e nx0 nx1 ny0 ny1 : Int32} {a q : Nat} (E : fw_E (fw_L (fw_XT pr ad po st ex nx) m) (fw_L (fw_YT cp cs ct cd cu cst cx cn0 cn1) m))
    (hn : fw_none (fw_XT pr ad po st ex nx) m p a q) (ha : a < 256) (hq : q < 256) (ok : fw_okX (p, nI a, nI q, s, e, nx0, nx1))
    (h6 : (if p = 1 then -1 else ny0) = nx0) (h7 : (if p = 1 then -1 else ny1) = nx1) :
    fw_E (fw_L (fw_XT (upd pr m p) (upd ad m (nI a)) (upd po m (nI q)) (upd st m s) (upd ex m e) (upd (upd nx (2 * m) nx0) (2 * m + 1) nx1)) (m + 1))
      (fw_L (fw_YT (upd cp m p) (upd cs m (nI (a % 16))) (upd ct m (nI (q % 16))) (upd cd m (nI (a / 16))) (upd cu m (nI (q / 16))) (upd cst m s) (upd cx m e) (upd cn0 m ny0) (upd cn1 m ny1)) (m + 1)) := by
  refine fw_E_new E (fw_app (fun j hj => fw_XT_n (by omega)) fw_XT_s) (fw_app (fun j hj => fw_YT_n (by omega)) fw_YT_s) (fw_mg rfl ?_ ?_ rfl rfl h6 h7) ok ?_ ?_
  · exact (fw_pair ⟨_, Nat.mod_lt _ (by decide), rfl⟩ ⟨a / 16, by omega, rfl⟩ ha).mpr ⟨rfl, rfl⟩
  · exact (fw_pair ⟨_, Nat.mod_lt _ (by decide), rfl⟩ ⟨q / 16, by omega, rfl⟩ hq).mpr ⟨rfl, rfl⟩
  · exact ⟨⟨_, Nat.mod_lt _ (by decide), rfl⟩, ⟨_, Nat.mod_lt _ (by decide), rfl⟩, ⟨a / 16, by omega, rfl⟩, ⟨q / 16, by omega, rfl⟩⟩
  · intro z hz
    obtain ⟨j, hj, rfl⟩ := fw_L_mem.mp hz
    have h := hn 0 (by decide) j hj
    rw [fw_K0] at h
    exact fun c => h c.symm
/-- what the reference's search finds is what the component's found -/
theorem fw_found {p : Int32} {a q i d j : Nat} (E : fw_E (fw_L (fw_XT pr ad po st ex nx) m) (fw_L (fw_YT cp cs ct cd cu cst cx cn0 cn1) m))
    (F : fw_F (fw_XT pr ad po st ex nx) m p a q i d) (hj : j < m) (hk : fw_key (fw_g (fw_YT cp cs ct cd cu cst cx cn0 cn1 j)) = fw_K p a q d) :
    fw_g (fw_YT cp cs ct cd cu cst cx cn0 cn1 j) = fw_XT pr ad po st ex nx i :=
  fw_E_same E (fw_L_in _ F.1) (fw_L_in _ hj) (F.2.2.1.trans hk.symm)
/-- a key that the component has, the reference has -/
theorem fw_has {i : Nat} (E : fw_E (fw_L (fw_XT pr ad po st ex nx) m) (fw_L (fw_YT cp cs ct cd cu cst cx cn0 cn1) m)) (hi : i < m) :
    ∃ j, j < m ∧ fw_key (fw_g (fw_YT cp cs ct cd cu cst cx cn0 cn1 j)) = fw_key (fw_XT pr ad po st ex nx i) := by
  obtain ⟨s, hs, e⟩ := fw_E_xy E (fw_L_in _ hi)
  obtain ⟨j, hj, rfl⟩ := fw_L_mem.mp hs
  exact ⟨j, hj, by rw [e]⟩
/-- a key that the reference has, the component has -/
theorem fw_hasY {j : Nat} (E : fw_E (fw_L (fw_XT pr ad po st ex nx) m) (fw_L (fw_YT cp cs ct cd cu cst cx cn0 cn1) m)) (hj : j < m) :
    ∃ i, i < m ∧ fw_key (fw_XT pr ad po st ex nx i) = fw_key (fw_g (fw_YT cp cs ct cd cu cst cx cn0 cn1 j)) := by
  obtain ⟨i, hi, e⟩ := fw_L_mem.mp (fw_E_yx E (fw_L_in _ hj))
  exact ⟨i, hi, by rw [e]⟩
end MV
/-- the component's tick, downwards: slots from s on are looked at -/
def fw_TI {α : Type} (q : α → Bool) (l0 : List α) (f : Nat → α) (c s : Nat) : Prop := s ≤ c ∧ (∀ j, s ≤ j → j < c → q (f j) = true) ∧ ((fw_L f c).filter q).Perm (l0.filter q)
theorem fw_TI_0 {α : Type} {q : α → Bool} {f : Nat → α} {m : Nat} : fw_TI q (fw_L f m) f m m := ⟨Nat.le_refl _, fun j h1 h2 => absurd h2 (Nat.not_lt.mpr h1), List.Perm.refl _⟩
theorem fw_TI_k {α : Type} {q : α → Bool} {l0 : List α} {f : Nat → α} {c s : Nat} (h : fw_TI q l0 f c (s + 1)) (hq : q (f s) = true) : fw_TI q l0 f c s := by
  obtain ⟨h1, h2, h3⟩ := h
  refine ⟨by omega, fun j a b => ?_, h3⟩
  by_cases e : j = s
  · rw [e]; exact hq
  · exact h2 j (by omega) b
theorem fw_TI_d {α : Type} {q : α → Bool} {l0 : List α} {f f' : Nat → α} {c s : Nat} (h : fw_TI q l0 f (c + 1) (s + 1)) (hq : q (f s) = false)
    (ho : ∀ j, j < c → j ≠ s → f' j = f j) (hv : s < c → f' s = f c) : fw_TI q l0 f' c s := by
  obtain ⟨h1, h2, h3⟩ := h
  refine ⟨by omega, fun j a b => ?_, fw_gone h3 hq (fw_swap (by omega) ho hv)⟩
  by_cases e : j = s
  · rw [e, hv (by omega)]; exact h2 c (by omega) (by omega)
  · rw [ho j b e]; exact h2 j (by omega) (by omega)
theorem fw_TI_e {α : Type} {q : α → Bool} {l0 : List α} {f : Nat → α} {c : Nat} (h : fw_TI q l0 f c 0) : (fw_L f c).Perm (l0.filter q) := by
  obtain ⟨h1, h2, h3⟩ := h
  rw [fw_all (fun j hj => h2 j (Nat.zero_le _) hj)] at h3
  exact h3
/-- the reference's removal, upwards: the slots from e up to k have taken the next one's value -/
def fw_SH {α : Type} (f f' : Nat → α) (e k : Nat) : Prop := (∀ j, e ≤ j → j < k → f' j = f (j + 1)) ∧ (∀ j, j < e → f' j = f j) ∧ (∀ j, k ≤ j → f' j = f j)
theorem fw_SH_0 {α : Type} {f : Nat → α} {e : Nat} : fw_SH f f e e := ⟨fun j h1 h2 => absurd h2 (Nat.not_lt.mpr h1), fun _ _ => rfl, fun _ _ => rfl⟩
theorem fw_SH_s {α : Type} {f f' f'' : Nat → α} {e k : Nat} (h : fw_SH f f' e k) (hk : e ≤ k) (hv : f'' k = f' (k + 1)) (ho : ∀ j, j ≠ k → f'' j = f' j) : fw_SH f f'' e (k + 1) := by
  obtain ⟨h1, h2, h3⟩ := h
  refine ⟨fun j a b => ?_, fun j a => ?_, fun j a => ?_⟩
  · by_cases z : j = k
    · rw [z, hv, h3 (k + 1) (by omega)]
    · rw [ho j z, h1 j a (by omega)]
  · rw [ho j (by omega), h2 j a]
  · rw [ho j (by omega), h3 j (by omega)]
theorem fw_SH_e {α : Type} {f f' : Nat → α} {e m : Nat} (h : fw_SH f f' e m) (he : e < m + 1) : (f e :: fw_L f' m).Perm (fw_L f (m + 1)) :=
  fw_shift m he (fun j _ b => h.2.1 j b) (fun j a b => h.1 j b a)
/-- the reference's tick, upwards -/
def fw_UP {α : Type} (q : α → Bool) (f g : Nat → α) (i w : Nat) : Prop := w ≤ i ∧ fw_L g w = (fw_L f i).filter q ∧ (∀ j, i ≤ j → g j = f j)
theorem fw_UP_0 {α : Type} {q : α → Bool} {f : Nat → α} : fw_UP q f f 0 0 := ⟨Nat.le_refl _, rfl, fun _ _ => rfl⟩
theorem fw_UP_f {α : Type} {q : α → Bool} {f g : Nat → α} {i w : Nat} (h : fw_UP q f g i w) (hq : q (g i) = false) : fw_UP q f g (i + 1) w := by
  obtain ⟨h1, h2, h3⟩ := h
  rw [h3 i (Nat.le_refl _)] at hq
  exact ⟨by omega, fw_skip h2 hq, fun j hj => h3 j (by omega)⟩
theorem fw_UP_t {α : Type} {q : α → Bool} {f g g' : Nat → α} {i w : Nat} (h : fw_UP q f g i w) (hq : q (g i) = true) (hv : g' w = g i) (ho : ∀ j, j ≠ w → g' j = g j) : fw_UP q f g' (i + 1) (w + 1) := by
  obtain ⟨h1, h2, h3⟩ := h
  have e := h3 i (Nat.le_refl _)
  rw [e] at hq hv
  exact ⟨by omega, fw_keep h2 hq (fun j hj => ho j (by omega)) hv, fun j hj => by rw [ho j (by omega)]; exact h3 j (by omega)⟩
theorem fw_ptw {α : Type} {f g : Nat → α} {w : Nat} (hv : g w = f w) (ho : ∀ j, j ≠ w → g j = f j) : g = f := by
  funext j
  by_cases e : j = w
  · rw [e, hv]
  · exact ho j e
