/-- what a kept rule is -/
def fw_k (a b c d : Int32) : Prop := fw_r 80 a ∧ fw_r 80 b ∧ fw_r 256 c ∧ (c &&& 15) ≤ c >>> ((4 : Int32) &&& 31) ∧ fw_r 8 d ∧ ¬ (d &&& 3) = 3
/-- the two lists of rules are the same -/
def fw_R (r rS rD rP rA : Nat → Int32) (n : Nat) : Prop := ∀ i, i < n → r (4 * i) = rS i ∧ r (4 * i + 1) = rD i ∧ r (4 * i + 2) = rP i ∧ r (4 * i + 3) = rA i ∧ fw_k (rS i) (rD i) (rP i) (rA i)
theorem fw_R_0 {r rS rD rP rA : Nat → Int32} : fw_R r rS rD rP rA 0 := fun _ h => absurd h (Nat.not_lt_zero _)
theorem fw_R_add {r rS rD rP rA : Nat → Int32} {n : Nat} {a b c d : Int32} (R : fw_R r rS rD rP rA n) (h : fw_k a b c d) :
    fw_R (upd (upd (upd (upd r (4 * n) a) (4 * n + 1) b) (4 * n + 2) c) (4 * n + 3) d) (upd rS n a) (upd rD n b) (upd rP n c) (upd rA n d) (n + 1) := by
  intro i hi
  by_cases e : i = n
  · subst e
    refine ⟨?_, ?_, ?_, ?_, ?_⟩
    · rw [pk_un (by omega), pk_un (by omega), pk_un (by omega), pk_us, pk_us]
    · rw [pk_un (by omega), pk_un (by omega), pk_us, pk_us]
    · rw [pk_un (by omega), pk_us, pk_us]
    · rw [pk_us, pk_us]
    · rw [pk_us, pk_us, pk_us, pk_us]; exact h
  · obtain ⟨h1, h2, h3, h4, h5⟩ := R i (by omega)
    refine ⟨?_, ?_, ?_, ?_, ?_⟩
    · rw [pk_un (by omega), pk_un (by omega), pk_un (by omega), pk_un (by omega), pk_un e]; exact h1
    · rw [pk_un (by omega), pk_un (by omega), pk_un (by omega), pk_un (by omega), pk_un e]; exact h2
    · rw [pk_un (by omega), pk_un (by omega), pk_un (by omega), pk_un (by omega), pk_un e]; exact h3
    · rw [pk_un (by omega), pk_un (by omega), pk_un (by omega), pk_un (by omega), pk_un e]; exact h4
    · rw [pk_un e, pk_un e, pk_un e, pk_un e]; exact h5
/-- an array in which the cells from lo up to c took the value w cells further on -/
def fw_mv (f f' : Nat → Int32) (w lo c : Nat) : Prop := ∀ x, f' x = if lo ≤ x ∧ x < c then f (x + w) else f x
theorem fw_mv_0 (f : Nat → Int32) (w lo : Nat) : fw_mv f f w lo lo := fun x => (if_neg (by omega)).symm
theorem fw_mv_s {f f' : Nat → Int32} {w lo c : Nat} (hw : 0 < w) (hc : lo ≤ c) (h : fw_mv f f' w lo c) : fw_mv f (upd f' c (f' (c + w))) w lo (c + 1) := by
  intro x
  by_cases e : x = c
  · subst e
    rw [pk_us, h, if_neg (by omega), if_pos (by omega)]
  · rw [pk_un e, h]
    by_cases z : lo ≤ x ∧ x < c
    · rw [if_pos z, if_pos (by omega)]
    · rw [if_neg z, if_neg (by omega)]
theorem fw_mv_lt {f f' : Nat → Int32} {w lo c x : Nat} (h : fw_mv f f' w lo c) (hx : x < lo) : f' x = f x := by rw [h, if_neg (by omega)]
theorem fw_mv_in {f f' : Nat → Int32} {w lo c x : Nat} (h : fw_mv f f' w lo c) (h1 : lo ≤ x) (h2 : x < c) : f' x = f (x + w) := by rw [h, if_pos ⟨h1, h2⟩]
theorem fw_R_del {r r' rS rS' rD rD' rP rP' rA rA' : Nat → Int32} {n k : Nat} (R : fw_R r rS rD rP rA (n + 1)) (hr : fw_mv r r' 4 (4 * k) (4 * n)) (hk : k ≤ n)
    (hS : fw_mv rS rS' 1 k n) (hD : fw_mv rD rD' 1 k n) (hP : fw_mv rP rP' 1 k n) (hA : fw_mv rA rA' 1 k n) : fw_R r' rS' rD' rP' rA' n := by
  intro i hi
  by_cases e : k ≤ i
  · obtain ⟨h1, h2, h3, h4, h5⟩ := R (i + 1) (by omega)
    rw [show 4 * (i + 1) = 4 * i + 4 from by omega] at h1
    rw [show 4 * (i + 1) + 1 = 4 * i + 1 + 4 from by omega] at h2
    rw [show 4 * (i + 1) + 2 = 4 * i + 2 + 4 from by omega] at h3
    rw [show 4 * (i + 1) + 3 = 4 * i + 3 + 4 from by omega] at h4
    rw [fw_mv_in hS e hi, fw_mv_in hD e hi, fw_mv_in hP e hi, fw_mv_in hA e hi, fw_mv_in hr (x := 4 * i) (by omega) (by omega), fw_mv_in hr (x := 4 * i + 1) (by omega) (by omega), fw_mv_in hr (x := 4 * i + 2) (by omega) (by omega), fw_mv_in hr (x := 4 * i + 3) (by omega) (by omega)]
    exact ⟨h1, h2, h3, h4, h5⟩
  · obtain ⟨h1, h2, h3, h4, h5⟩ := R i (by omega)
    rw [fw_mv_lt hS (by omega), fw_mv_lt hD (by omega), fw_mv_lt hP (by omega), fw_mv_lt hA (by omega), fw_mv_lt hr (x := 4 * i) (by omega), fw_mv_lt hr (x := 4 * i + 1) (by omega), fw_mv_lt hr (x := 4 * i + 2) (by omega), fw_mv_lt hr (x := 4 * i + 3) (by omega)]
    exact ⟨h1, h2, h3, h4, h5⟩
/-- the swapped half of a pair -/
def fw_sw (a : Nat) : Nat := a / 16 + 16 * (a % 16)
def fw_K (p : Int32) (a q d : Nat) : Int32 × Int32 × Int32 := if d = 0 then (p, nI a, nI q) else (p, nI (fw_sw a), nI (fw_sw q))
theorem fw_K0 {p : Int32} {a q : Nat} : fw_K p a q 0 = (p, nI a, nI q) := if_pos rfl
theorem fw_K1 {p : Int32} {a q : Nat} : fw_K p a q 1 = (p, nI (fw_sw a), nI (fw_sw q)) := if_neg (by decide)
/-- slot i is what the header finds, in direction d -/
def fw_F (f : Nat → fw_T) (m : Nat) (p : Int32) (a q i d : Nat) : Prop := i < m ∧ d < 2 ∧ fw_key (f i) = fw_K p a q d ∧ ∀ e, e < d → ∀ j, j < m → fw_key (f j) ≠ fw_K p a q e
def fw_none (f : Nat → fw_T) (m : Nat) (p : Int32) (a q : Nat) : Prop := ∀ e, e < 2 → ∀ j, j < m → fw_key (f j) ≠ fw_K p a q e
theorem fw_im {a b : Nat} (h : nI a = nI b) (ha : a < 2 ^ 31) (hb : b < 2 ^ 31) : a = b := (nI_eq ha hb).mp h
theorem fw_pair {x y : Int32} (hx : fw_r 16 x) (hy : fw_r 16 y) {a : Nat} (ha : a < 256) : x + 16 * y = nI a ↔ x = nI (a % 16) ∧ y = nI (a / 16) := by
  obtain ⟨b, hb, rfl⟩ := hx
  obtain ⟨c, hc, rfl⟩ := hy
  have e : nI b + 16 * nI c = nI (b + 16 * c) := by
    have e1 : (16 : Int32) * nI c = nI (16 * c) := pk_mul 16 c
    rw [e1, nI_add]
  rw [e, nI_eq (by omega) (by omega), nI_eq (by omega) (by omega), nI_eq (by omega) (by omega)]
  omega
/-- the key of a reference's entry, part by part -/
theorem fw_kg {pr os op od oq st ex n0 n1 p : Int32} {a q : Nat} (ok : fw_okY (pr, os, op, od, oq, st, ex, n0, n1)) (ha : a < 256) (hq : q < 256) :
    fw_key (fw_g (pr, os, op, od, oq, st, ex, n0, n1)) = (p, nI a, nI q) ↔ pr = p ∧ os = nI (a % 16) ∧ op = nI (q % 16) ∧ od = nI (a / 16) ∧ oq = nI (q / 16) := by
  obtain ⟨h1, h2, h3, h4⟩ := ok
  show (pr, os + 16 * od, op + 16 * oq) = (p, nI a, nI q) ↔ _
  rw [Prod.mk.injEq, Prod.mk.injEq, fw_pair h1 h3 ha, fw_pair h2 h4 hq]
  constructor
  · exact fun ⟨x, ⟨y, z⟩, u, v⟩ => ⟨x, y, u, z, v⟩
  · exact fun ⟨x, y, u, z, v⟩ => ⟨x, ⟨y, z⟩, u, v⟩
theorem fw_swlt {a : Nat} (h : a < 256) : fw_sw a < 256 := by unfold fw_sw; omega
theorem fw_swlo {a : Nat} (h : a < 256) : fw_sw a % 16 = a / 16 := by unfold fw_sw; omega
theorem fw_swhi {a : Nat} (h : a < 256) : fw_sw a / 16 = a % 16 := by unfold fw_sw; omega
theorem fw_XT_n {pr ad po st ex nx : Nat → Int32} {i j : Nat} {a b c d e f g : Int32} (h : j ≠ i) :
    fw_XT (upd pr i a) (upd ad i b) (upd po i c) (upd st i d) (upd ex i e) (upd (upd nx (2 * i) f) (2 * i + 1) g) j = fw_XT pr ad po st ex nx j := by
  unfold fw_XT
  rw [pk_un h, pk_un h, pk_un h, pk_un h, pk_un h, pk_un (by omega), pk_un (by omega), pk_un (by omega), pk_un (by omega)]
theorem fw_XT_s {pr ad po st ex nx : Nat → Int32} {i : Nat} {a b c d e f g : Int32} :
    fw_XT (upd pr i a) (upd ad i b) (upd po i c) (upd st i d) (upd ex i e) (upd (upd nx (2 * i) f) (2 * i + 1) g) i = (a, b, c, d, e, f, g) := by
  unfold fw_XT
  rw [pk_us, pk_us, pk_us, pk_us, pk_us, pk_us, pk_un (by omega), pk_us]
theorem fw_XU_n {pr ad po st ex nx : Nat → Int32} {i j : Nat} {d e : Int32} (h : j ≠ i) :
    fw_XT pr ad po (upd st i d) (upd ex i e) nx j = fw_XT pr ad po st ex nx j := by
  unfold fw_XT
  rw [pk_un h, pk_un h]
theorem fw_XU_s {pr ad po st ex nx : Nat → Int32} {i : Nat} {d e : Int32} :
    fw_XT pr ad po (upd st i d) (upd ex i e) nx i = (pr i, ad i, po i, d, e, nx (2 * i), nx (2 * i + 1)) := by
  unfold fw_XT
  rw [pk_us, pk_us]
theorem fw_XV_n {pr ad po st ex nx : Nat → Int32} {i j k : Nat} {d e f : Int32} (h : j ≠ i) (hk : k < 2) :
    fw_XT pr ad po (upd st i d) (upd ex i e) (upd nx (2 * i + k) f) j = fw_XT pr ad po st ex nx j := by
  unfold fw_XT
  rw [pk_un h, pk_un h, pk_un (by omega), pk_un (by omega)]
theorem fw_XV_0 {pr ad po st ex nx : Nat → Int32} {i : Nat} {d e f : Int32} :
    fw_XT pr ad po (upd st i d) (upd ex i e) (upd nx (2 * i) f) i = (pr i, ad i, po i, d, e, f, nx (2 * i + 1)) := by
  unfold fw_XT
  rw [pk_us, pk_us, pk_us, pk_un (by omega)]
theorem fw_XV_1 {pr ad po st ex nx : Nat → Int32} {i : Nat} {d e f : Int32} :
    fw_XT pr ad po (upd st i d) (upd ex i e) (upd nx (2 * i + 1) f) i = (pr i, ad i, po i, d, e, nx (2 * i), f) := by
  unfold fw_XT
  rw [pk_us, pk_us, pk_us, pk_un (by omega)]
theorem fw_YT_n {pr os op od oq st ex n0 n1 : Nat → Int32} {i j : Nat} {a b c d e f g h k : Int32} (hj : j ≠ i) :
    fw_YT (upd pr i a) (upd os i b) (upd op i c) (upd od i d) (upd oq i e) (upd st i f) (upd ex i g) (upd n0 i h) (upd n1 i k) j = fw_YT pr os op od oq st ex n0 n1 j := by
  unfold fw_YT
  rw [pk_un hj, pk_un hj, pk_un hj, pk_un hj, pk_un hj, pk_un hj, pk_un hj, pk_un hj, pk_un hj]
theorem fw_YT_s {pr os op od oq st ex n0 n1 : Nat → Int32} {i : Nat} {a b c d e f g h k : Int32} :
    fw_YT (upd pr i a) (upd os i b) (upd op i c) (upd od i d) (upd oq i e) (upd st i f) (upd ex i g) (upd n0 i h) (upd n1 i k) i = (a, b, c, d, e, f, g, h, k) := by
  unfold fw_YT
  rw [pk_us, pk_us, pk_us, pk_us, pk_us, pk_us, pk_us, pk_us, pk_us]
theorem fw_YU_n {pr os op od oq st ex n0 n1 : Nat → Int32} {i j : Nat} {f g : Int32} (hj : j ≠ i) :
    fw_YT pr os op od oq (upd st i f) (upd ex i g) n0 n1 j = fw_YT pr os op od oq st ex n0 n1 j := by
  unfold fw_YT
  rw [pk_un hj, pk_un hj]
theorem fw_YU_s {pr os op od oq st ex n0 n1 : Nat → Int32} {i : Nat} {f g : Int32} :
    fw_YT pr os op od oq (upd st i f) (upd ex i g) n0 n1 i = (pr i, os i, op i, od i, oq i, f, g, n0 i, n1 i) := by
  unfold fw_YT
  rw [pk_us, pk_us]
theorem fw_YV_n0 {pr os op od oq st ex n0 n1 : Nat → Int32} {i j : Nat} {f g h : Int32} (hj : j ≠ i) :
    fw_YT pr os op od oq (upd st i f) (upd ex i g) (upd n0 i h) n1 j = fw_YT pr os op od oq st ex n0 n1 j := by
  unfold fw_YT
  rw [pk_un hj, pk_un hj, pk_un hj]
theorem fw_YV_s0 {pr os op od oq st ex n0 n1 : Nat → Int32} {i : Nat} {f g h : Int32} :
    fw_YT pr os op od oq (upd st i f) (upd ex i g) (upd n0 i h) n1 i = (pr i, os i, op i, od i, oq i, f, g, h, n1 i) := by
  unfold fw_YT
  rw [pk_us, pk_us, pk_us]
theorem fw_YV_n1 {pr os op od oq st ex n0 n1 : Nat → Int32} {i j : Nat} {f g h : Int32} (hj : j ≠ i) :
    fw_YT pr os op od oq (upd st i f) (upd ex i g) n0 (upd n1 i h) j = fw_YT pr os op od oq st ex n0 n1 j := by
  unfold fw_YT
  rw [pk_un hj, pk_un hj, pk_un hj]
theorem fw_YV_s1 {pr os op od oq st ex n0 n1 : Nat → Int32} {i : Nat} {f g h : Int32} :
    fw_YT pr os op od oq (upd st i f) (upd ex i g) n0 (upd n1 i h) i = (pr i, os i, op i, od i, oq i, f, g, n0 i, h) := by
  unfold fw_YT
  rw [pk_us, pk_us, pk_us]
/-- the relation of the two states -/
def i_Rel (_ : Nat) (u : SX) (v : SY) : Prop :=
  ∃ (rc cc n m : Nat) (da ck fd : Int32) (r pr ad po st ex nx rS rD rP rA cp cs ct cd cu cst cx cn0 cn1 : Nat → Int32),
    u = (nI rc, nI cc, da, nI n, nI m, ck, r, pr, ad, po, st, ex, nx) ∧ v = (nI rc, nI cc, da, nI n, nI m, ck, fd, rS, rD, rP, rA, cp, cs, ct, cd, cu, cst, cx, cn0, cn1) ∧
    rc ≤ 16 ∧ cc ≤ 16 ∧ n ≤ rc ∧ m ≤ cc ∧ fw_R r rS rD rP rA n ∧ fw_E (fw_L (fw_XT pr ad po st ex nx) m) (fw_L (fw_YT cp cs ct cd cu cst cx cn0 cn1) m)
theorem i_up {k : Nat} {u : SX} {v : SY} (h : i_Rel k u v) : i_Rel (k + 5) u v := h
