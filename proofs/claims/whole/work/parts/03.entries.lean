/-- an int that is a natural below n -/
def fw_r (n : Nat) (x : Int32) : Prop := ∃ a : Nat, a < n ∧ x = nI a
/-- an entry as the component keeps it: protocol, addresses, ports, state, expiry, next of origin, next of reply -/
abbrev fw_T : Type := Int32 × Int32 × Int32 × Int32 × Int32 × Int32 × Int32
/-- as the reference keeps it: protocol, source, its port, destination, its port, state, expiry, next of origin, of reply -/
abbrev fw_U : Type := Int32 × Int32 × Int32 × Int32 × Int32 × Int32 × Int32 × Int32 × Int32
def fw_XT (pr ad po st ex nx : Nat → Int32) (i : Nat) : fw_T := (pr i, ad i, po i, st i, ex i, nx (2 * i), nx (2 * i + 1))
def fw_YT (pr os op od oq st ex n0 n1 : Nat → Int32) (i : Nat) : fw_U := (pr i, os i, op i, od i, oq i, st i, ex i, n0 i, n1 i)
def fw_g : fw_U → fw_T := fun (pr, os, op, od, oq, st, ex, n0, n1) => (pr, os + 16 * od, op + 16 * oq, st, ex, if pr = 1 then -1 else n0, if pr = 1 then -1 else n1)
def fw_key : fw_T → Int32 × Int32 × Int32 := fun (pr, ad, po, _, _, _, _) => (pr, ad, po)
/-- a next sequence number: unset, or of a byte -/
def fw_N (x : Int32) : Prop := x = -1 ∨ fw_r 256 x
def fw_okX : fw_T → Prop := fun (pr, ad, po, st, _, n0, n1) =>
  (pr = 0 ∨ pr = 1) ∧ fw_r 256 ad ∧ fw_r 256 po ∧ (pr = 0 → ∃ k : Nat, k < 7 ∧ st = nI (k + 1)) ∧ fw_N n0 ∧ fw_N n1 ∧ (pr = 1 → n0 = -1 ∧ n1 = -1)
def fw_okY : fw_U → Prop := fun (_, os, op, od, oq, _, _, _, _) => fw_r 16 os ∧ fw_r 16 op ∧ fw_r 16 od ∧ fw_r 16 oq
/-- the two tables of entries hold the same -/
def fw_E (lx : List fw_T) (ly : List fw_U) : Prop :=
  lx.Perm (ly.map fw_g) ∧ (∀ t, t ∈ lx → fw_okX t) ∧ (∀ s, s ∈ ly → fw_okY s) ∧ lx.Pairwise (fun a b => fw_key a ≠ fw_key b)
theorem fw_E_0 : fw_E [] [] := ⟨List.Perm.refl _, fun _ h => absurd h List.not_mem_nil, fun _ h => absurd h List.not_mem_nil, List.Pairwise.nil⟩
theorem fw_ksym : ∀ {a b : fw_T}, fw_key a ≠ fw_key b → fw_key b ≠ fw_key a := fun h e => h e.symm
theorem fw_split {α : Type} {l : List α} {t : α} (h : t ∈ l) : ∃ r : List α, l.Perm (t :: r) := by
  obtain ⟨a, b, rfl⟩ := List.append_of_mem h
  exact ⟨a ++ b, List.perm_middle⟩
theorem fw_E_upd {lx lx' : List fw_T} {ly ly' : List fw_U} {t t' : fw_T} {s s' : fw_U} (E : fw_E lx ly) (ht : t ∈ lx)
    (hx : (t :: lx').Perm (t' :: lx)) (hy : (s :: ly').Perm (s' :: ly)) (e : fw_g s = t) (e' : fw_g s' = t') (ok : fw_okX t') (oky : fw_okY s') (ek : fw_key t' = fw_key t) : fw_E lx' ly' := by
  obtain ⟨p, a, b, c⟩ := E
  refine ⟨?_, ?_, ?_, ?_⟩
  · have h1 : (t' :: lx).Perm ((s' :: ly).map fw_g) := by
      rw [List.map_cons, e']
      exact p.cons _
    have h2 := (hx.trans h1).trans ((hy.map fw_g).symm)
    rw [List.map_cons, e] at h2
    exact h2.cons_inv
  · intro z hz
    have h1 : z ∈ t' :: lx := hx.mem_iff.mp (List.mem_cons_of_mem _ hz)
    rcases List.mem_cons.mp h1 with rfl | h1
    · exact ok
    · exact a z h1
  · intro z hz
    have h1 : z ∈ s' :: ly := hy.mem_iff.mp (List.mem_cons_of_mem _ hz)
    rcases List.mem_cons.mp h1 with rfl | h1
    · exact oky
    · exact b z h1
  · obtain ⟨r, hr⟩ := fw_split ht
    have h1 : (t :: lx').Perm (t :: t' :: r) := (hx.trans (hr.cons t')).trans (List.Perm.swap _ _ _)
    have h2 : lx'.Perm (t' :: r) := h1.cons_inv
    have h3 := c.perm hr fw_ksym
    obtain ⟨h4, h5⟩ := List.pairwise_cons.mp h3
    have h6 : (t' :: r).Pairwise (fun a b => fw_key a ≠ fw_key b) := List.pairwise_cons.mpr ⟨fun z hz => by rw [ek]; exact h4 z hz, h5⟩
    exact h6.perm h2.symm fw_ksym
theorem fw_E_del {lx lx' : List fw_T} {ly ly' : List fw_U} {t : fw_T} {s : fw_U} (E : fw_E lx ly)
    (hx : (t :: lx').Perm lx) (hy : (s :: ly').Perm ly) (e : fw_g s = t) : fw_E lx' ly' := by
  obtain ⟨p, a, b, c⟩ := E
  refine ⟨?_, fun z hz => a z (hx.mem_iff.mp (List.mem_cons_of_mem _ hz)), fun z hz => b z (hy.mem_iff.mp (List.mem_cons_of_mem _ hz)), ?_⟩
  · have h2 := (hx.trans p).trans ((hy.map fw_g).symm)
    rw [List.map_cons, e] at h2
    exact h2.cons_inv
  · exact (List.pairwise_cons.mp (c.perm hx.symm fw_ksym)).2
theorem fw_E_new {lx lx' : List fw_T} {ly ly' : List fw_U} {t : fw_T} {s : fw_U} (E : fw_E lx ly)
    (hx : lx'.Perm (t :: lx)) (hy : ly'.Perm (s :: ly)) (e : fw_g s = t) (ok : fw_okX t) (oky : fw_okY s) (hk : ∀ z, z ∈ lx → fw_key t ≠ fw_key z) : fw_E lx' ly' := by
  obtain ⟨p, a, b, c⟩ := E
  refine ⟨?_, ?_, ?_, ?_⟩
  · have h1 : (t :: lx).Perm ((s :: ly).map fw_g) := by
      rw [List.map_cons, e]
      exact p.cons _
    exact (hx.trans h1).trans ((hy.map fw_g).symm)
  · intro z hz
    rcases List.mem_cons.mp (hx.mem_iff.mp hz) with rfl | h1
    · exact ok
    · exact a z h1
  · intro z hz
    rcases List.mem_cons.mp (hy.mem_iff.mp hz) with rfl | h1
    · exact oky
    · exact b z h1
  · have h6 : (t :: lx).Pairwise (fun a b => fw_key a ≠ fw_key b) := List.pairwise_cons.mpr ⟨hk, c⟩
    exact h6.perm hx.symm fw_ksym
theorem fw_E_tick {lx lx' : List fw_T} {ly ly' : List fw_U} (q : fw_T → Bool) (E : fw_E lx ly)
    (hx : lx'.Perm (lx.filter q)) (hy : ly' = ly.filter (q ∘ fw_g)) : fw_E lx' ly' ∧ lx'.length = ly'.length := by
  obtain ⟨p, a, b, c⟩ := E
  have h1 : lx'.Perm (ly'.map fw_g) := by
    rw [hy, ← List.filter_map]
    exact hx.trans (p.filter q)
  refine ⟨⟨h1, fun z hz => a z ((List.mem_filter.mp (hx.mem_iff.mp hz)).1), fun z hz => ?_, ?_⟩, ?_⟩
  · rw [hy] at hz
    exact b z (List.mem_filter.mp hz).1
  · exact (c.sublist List.filter_sublist).perm hx.symm fw_ksym
  · rw [h1.length_eq, List.length_map]
theorem fw_E_len {lx : List fw_T} {ly : List fw_U} (E : fw_E lx ly) : lx.length = ly.length := by
  rw [E.1.length_eq, List.length_map]
/-- both sides found an entry with one key: it is the same entry -/
theorem fw_E_same {lx : List fw_T} {ly : List fw_U} {t : fw_T} {s : fw_U} (E : fw_E lx ly) (ht : t ∈ lx) (hs : s ∈ ly) (hk : fw_key t = fw_key (fw_g s)) : fw_g s = t := by
  obtain ⟨p, a, b, c⟩ := E
  exact (fw_one c ht (p.mem_iff.mpr (List.mem_map_of_mem hs)) hk).symm
/-- a key that one side has the other has too -/
theorem fw_E_xy {lx : List fw_T} {ly : List fw_U} {t : fw_T} (E : fw_E lx ly) (ht : t ∈ lx) : ∃ s, s ∈ ly ∧ fw_g s = t := by
  obtain ⟨p, a, b, c⟩ := E
  exact List.mem_map.mp (p.mem_iff.mp ht)
theorem fw_E_yx {lx : List fw_T} {ly : List fw_U} {s : fw_U} (E : fw_E lx ly) (hs : s ∈ ly) : fw_g s ∈ lx := by
  obtain ⟨p, a, b, c⟩ := E
  exact p.mem_iff.mpr (List.mem_map_of_mem hs)
