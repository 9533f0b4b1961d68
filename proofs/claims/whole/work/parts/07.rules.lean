theorem fw_bt {b : Bool} {A B : Prop} (h : b = true) (x : B) : (fw_b b = 0 → A) ∧ (¬ fw_b b = 0 → B) := fw_br (fun z => absurd (h.symm.trans z) (by decide)) (fun _ => x)
theorem fw_bf {b : Bool} {A B : Prop} (h : b = false) (x : A) : (fw_b b = 0 → A) ∧ (¬ fw_b b = 0 → B) := fw_br (fun _ => x) (fun z => absurd (h.symm.trans z) (by decide))
theorem fw_in_t {x h : Int32} (e : fw_in x h = true) : ¬ x < 0 ∧ x ≤ h := by
  unfold fw_in at e
  rw [Bool.and_eq_true, decide_eq_true_eq, decide_eq_true_eq] at e
  exact e
theorem fw_in_m {x h : Int32} (a : ¬ x < 0) (b : x ≤ h) : fw_in x h = true := by
  unfold fw_in
  rw [decide_eq_true a, decide_eq_true b]
  rfl
theorem fx_inRange {post : Int32 → Prop} {x h : Int32} (H : post (fw_b (fw_in x h))) : wpX_inRange post x h := by
  unfold fw_in at H
  refine br_c (fun a => ?_) (fun a => br_c (fun b => ?_) (fun b => ?_))
  · rw [decide_eq_false (fun z => z a)] at H; exact H
  · rw [decide_eq_false (p := x ≤ h) (fun z => absurd b (Int32.not_lt.mpr z)), Bool.and_false] at H; exact H
  · rw [decide_eq_true a, decide_eq_true (Int32.not_lt.mp b)] at H; exact H
theorem fx_validPrefix {post : Int32 → Prop} {p : Int32} (H : post (fw_b (fw_vp p))) : wpX_validPrefix post p := by
  unfold fw_vp at H
  unfold wpX_validPrefix
  refine fx_inRange (fw_br (fun a => ?_) (fun a => ?_))
  · rw [a] at H; exact H
  · have h : fw_r 80 p := (fw_in_r 79 (by decide)).mp a
    rw [fw_md h (by decide), fw_dv h (by decide)]
    refine ⟨by decide, nm_e ⟨by decide, fw_bd0 h, br_c (fun b => ?_) (fun b => ?_)⟩⟩
    · have b' : (p &&& 15) - (p &&& 15) / fw_bd p * fw_bd p = 0 := b
      rw [a, decide_eq_true b'] at H; exact H
    · have b' : ¬ (p &&& 15) - (p &&& 15) / fw_bd p * fw_bd p = 0 := b
      rw [a, decide_eq_false b'] at H; exact H
theorem fx_validPortRange {post : Int32 → Prop} {p : Int32} (H : post (fw_b (fw_vq p))) : wpX_validPortRange post p := by
  unfold fw_vq at H
  unfold wpX_validPortRange
  refine fx_inRange (fw_br (fun a => ?_) (fun a => ?_))
  · rw [a] at H; exact H
  · have h : fw_r 256 p := (fw_in_r 255 (by decide)).mp a
    rw [fw_md h (by decide), fw_dv h (by decide)]
    refine ⟨by decide, by decide, br_c (fun b => ?_) (fun b => ?_)⟩
    · rw [a, decide_eq_false (Int32.not_le.mpr b)] at H; exact H
    · rw [a, decide_eq_true (Int32.not_lt.mp b)] at H; exact H
theorem fw_m4 {d : Int32} (h : fw_r 8 d) : 2 < (d &&& 3) ↔ (d &&& 3) = 3 := by
  obtain ⟨a, ha, rfl⟩ := h
  have e : nI a &&& 3 = nI (a % 4) := pk_andN (by omega) 2 (by decide)
  rw [e]
  have e1 : (2 : Int32) < nI (a % 4) ↔ 2 < a % 4 := nI_ltI (a := 2) (by decide) (by omega)
  have e2 : nI (a % 4) = (3 : Int32) ↔ a % 4 = 3 := nI_eq (b := 3) (by omega) (by decide)
  rw [e1, e2]
  omega
theorem fx_validProtoAction {post : Int32 → Prop} {p : Int32} (H : post (fw_b (fw_va p))) : wpX_validProtoAction post p := by
  unfold fw_va at H
  unfold wpX_validProtoAction
  refine fx_inRange (fw_br (fun a => ?_) (fun a => ?_))
  · rw [a] at H; exact H
  · have h : fw_r 8 p := (fw_in_r 7 (by decide)).mp a
    rw [fw_md4 h (by decide)]
    refine ⟨by decide, br_c (fun b => ?_) (fun b => ?_)⟩
    · rw [a, decide_eq_true ((fw_m4 h).mp b)] at H; exact H
    · rw [a, decide_eq_false (fun z => b ((fw_m4 h).mpr z))] at H; exact H
theorem fx_validHeader {post : Int32 → Prop} {a b p : Int32} (H : post (fw_b (fw_hd a b p))) : wpX_validHeader post a b p := by
  unfold fw_hd at H
  unfold wpX_validHeader
  refine fx_inRange (fw_br (fun h1 => ?_) (fun h1 => fx_inRange (fw_br (fun h2 => ?_) (fun h2 => fx_inRange (fw_br (fun h3 => ?_) (fun h3 => ?_))))))
  · rw [h1] at H; exact H
  · rw [h1, h2] at H; exact H
  · rw [h1, h2, h3] at H; exact H
  · rw [h1, h2, h3] at H; exact H
theorem fx_prefixMatches {post : Int32 → Prop} {p x : Int32} (h : fw_r 80 p) (H : post (fw_b (fw_pm p x))) : wpX_prefixMatches post p x := by
  unfold wpX_prefixMatches
  rw [fw_md h (by decide), fw_dv h (by decide)]
  refine ⟨by decide, nm_e ⟨by decide, br_c (fun b => ?_) (fun b => ?_)⟩⟩
  · rw [show fw_pm p x = true from decide_eq_true b] at H; exact H
  · rw [show fw_pm p x = false from decide_eq_false b] at H; exact H
theorem fx_portMatches {post : Int32 → Prop} {c q : Int32} (h : fw_r 256 c) (H : post (fw_b (fw_pq c q))) : wpX_portMatches post c q := by
  unfold fw_pq at H
  unfold wpX_portMatches
  rw [fw_md h (by decide), fw_dv h (by decide)]
  refine ⟨by decide, br_c (fun a => ?_) (fun a => ⟨by decide, br_c (fun b => ?_) (fun b => ?_)⟩)⟩
  · rw [decide_eq_false (Int32.not_le.mpr a)] at H; exact H
  · rw [decide_eq_false (Int32.not_le.mpr b), Bool.and_false] at H; exact H
  · rw [decide_eq_true (Int32.not_lt.mp a), decide_eq_true (Int32.not_lt.mp b)] at H; exact H
theorem fx_protoMatches {post : Int32 → Prop} {d p : Int32} (h : fw_r 8 d) (H : post (fw_b (fw_pp d p))) : wpX_protoMatches post d p := by
  unfold fw_pp at H
  unfold wpX_protoMatches
  rw [fw_md4 h (by decide)]
  refine ⟨by decide, nm_e (br_c (fun a => ?_) (fun a => br_c (fun b => ?_) (fun b => ?_)))⟩
  · rw [decide_eq_true a] at H; exact H
  · rw [decide_eq_true b, Bool.or_true] at H; exact H
  · rw [decide_eq_false a, decide_eq_false b] at H; exact H
theorem fw_40 (i : Nat) : 4 * nI i + 0 = nI (4 * i) := by rw [Int32.add_zero]; exact pk_mul 4 i
theorem fw_41 (i : Nat) : 4 * nI i + 1 = nI (4 * i + 1) := (congrArg (· + 1) (pk_mul 4 i)).trans (nI_1 _)
theorem fw_42 (i : Nat) : 4 * nI i + 2 = nI (4 * i + 2) := (congrArg (· + 2) (pk_mul 4 i)).trans (nI_add _ 2)
theorem fw_43 (i : Nat) : 4 * nI i + 3 = nI (4 * i + 3) := (congrArg (· + 3) (pk_mul 4 i)).trans (nI_add _ 3)
section FX
variable {rc cc da ck : Int32} {r pr ad po st ex nx rS rD rP rA : Nat → Int32} {n m : Nat}
theorem fx_holdsRule {post : Int32 → Prop} {x : Int32} (H : post (fw_b (fw_in x (nI n - 1)))) : wpX_holdsRule post (rc, cc, da, nI n, nI m, ck, r, pr, ad, po, st, ex, nx) x := by
  unfold wpX_holdsRule
  exact fx_inRange ⟨fw_nb _, H⟩
theorem fx_ruleMatches {post : Int32 → Prop} {i a : Nat} {q p : Int32} (R : fw_R r rS rD rP rA n) (hn : n ≤ 16) (hi : i < n) (ha : a < 256)
    (H : post (fw_b (fw_M rS rD rP rA (nI (a % 16)) (nI (a / 16)) q p i))) : wpX_ruleMatches post (rc, cc, da, nI n, nI m, ck, r, pr, ad, po, st, ex, nx) (nI i) (nI a) q p := by
  obtain ⟨k1, k2, k3, k4, h1, h2, h3, h4, h5, h6⟩ := R i hi
  unfold wpX_ruleMatches
  dsimp only
  intro x5 e5
  subst e5
  have ea : nI a - nI a / 16 * 16 = nI (a % 16) := pk_rem (d := 16) (by omega) (by decide) (by decide)
  have eb : nI a / 16 = nI (a / 16) := pk_div (d := 16) (by omega) (by decide) (by decide)
  rw [ea, eb, fw_40, fw_41, fw_42, fw_43, nI_clamp (n := 4 * i) (by omega), nI_clamp (n := 4 * i + 1) (by omega), nI_clamp (n := 4 * i + 2) (by omega), nI_clamp (n := 4 * i + 3) (by omega), k1, k2, k3, k4]
  unfold fw_M fw_m at H
  refine ⟨vp_in_nI (by omega) (by decide), by decide, fx_prefixMatches h1 (fw_br (fun b1 => ?_) (fun b1 => ⟨vp_in_nI (by omega) (by decide), by decide, fx_prefixMatches h2 (fw_br (fun b2 => ?_) (fun b2 => ⟨vp_in_nI (by omega) (by decide), fx_portMatches h3 (fw_br (fun b3 => ?_) (fun b3 => ⟨vp_in_nI (by omega) (by decide), fx_protoMatches h5 (fw_br (fun b4 => ?_) (fun b4 => ?_))⟩))⟩))⟩))⟩
  · rw [b1] at H; exact H
  · rw [b1, b2] at H; exact H
  · rw [b1, b2, b3] at H; exact H
  · rw [b1, b2, b3, b4] at H; exact H
  · rw [b1, b2, b3, b4] at H; exact H
theorem fx_fm {post : Int32 → Prop} {a : Nat} {q p L : Int32} (R : fw_R r rS rD rP rA n) (hn : n ≤ 16) (ha : a < 256) :
    ∀ d i, i + d = n → post (fw_ix (fw_ff (fw_lo1 L (fw_M rS rD rP rA (nI (a % 16)) (nI (a / 16)) q p)) d i) n) → ∀ f, d < f → wX_firstMatch_3 post (nI a) q p L rc cc da (nI n) (nI m) ck r pr ad po st ex nx f (nI i) := by
  intro d
  induction d with
  | zero =>
    intro i hi H f hf
    obtain ⟨f, rfl⟩ : ∃ g, f = g + 1 := ⟨f - 1, by omega⟩
    have e : i = n := by omega
    subst e
    have e1 : fw_ix (fw_ff (fw_lo1 L (fw_M rS rD rP rA (nI (a % 16)) (nI (a / 16)) q p)) 0 i) i = -2 := if_neg (Nat.lt_irrefl i)
    rw [e1] at H
    exact br_t (nI_le (Nat.le_refl _) (by omega)) H
  | succ d ih =>
    intro i hi H f hf
    obtain ⟨f, rfl⟩ : ∃ g, f = g + 1 := ⟨f - 1, by omega⟩
    refine br_f (nI_ge (by omega) (by omega)) (br_c (fun e => nm_r (nI_1 i) (ih (i + 1) (by omega) ?_ f (by omega))) (fun e => fx_ruleMatches R hn (by omega) ha (fw_br (fun b => nm_r (nI_1 i) (ih (i + 1) (by omega) ?_ f (by omega))) (fun b => ?_))))
    · have z : fw_lo1 L (fw_M rS rD rP rA (nI (a % 16)) (nI (a / 16)) q p) i = false := by unfold fw_lo1; rw [decide_eq_true e]; rfl
      rw [fw_ff_f z] at H; exact H
    · have z : fw_lo1 L (fw_M rS rD rP rA (nI (a % 16)) (nI (a / 16)) q p) i = false := by unfold fw_lo1; rw [decide_eq_false e, b]; rfl
      rw [fw_ff_f z] at H; exact H
    · have z : fw_lo1 L (fw_M rS rD rP rA (nI (a % 16)) (nI (a / 16)) q p) i = true := by unfold fw_lo1; rw [decide_eq_false e, b]; rfl
      rw [fw_ff_t z, show fw_ix i n = nI i from if_pos (by omega)] at H; exact H
theorem fx_firstMatch {post : Int32 → Prop} {a : Nat} {q p L : Int32} (R : fw_R r rS rD rP rA n) (hn : n ≤ 16) (ha : a < 256)
    (H : post (fw_ix (fw_ff (fw_lo1 L (fw_M rS rD rP rA (nI (a % 16)) (nI (a / 16)) q p)) n 0) n)) : wpX_firstMatch post (rc, cc, da, nI n, nI m, ck, r, pr, ad, po, st, ex, nx) (nI a) q p L :=
  ⟨n + 1, fx_fm R hn ha n 0 (by omega) H (n + 1) (by omega)⟩
theorem fx_actionOf {post : Int32 → Prop} {v : Nat} (R : fw_R r rS rD rP rA n) (hn : n ≤ 16) (H : post (fw_ac v n rA da)) : wpX_actionOf post (rc, cc, da, nI n, nI m, ck, r, pr, ad, po, st, ex, nx) (fw_ix v n) := by
  unfold wpX_actionOf
  dsimp only
  by_cases h : v < n
  · obtain ⟨k1, k2, k3, k4, h1, h2, h3, h4, h5, h6⟩ := R v h
    rw [show fw_ac v n rA da = (rA v) >>> ((2 : Int32) &&& 31) from if_pos h, ← fw_dv4 h5 (by decide)] at H
    rw [show fw_ix v n = nI v from if_pos h, fw_43, nI_clamp (n := 4 * v + 3) (by omega), k4]
    refine br_f ?_ ⟨vp_in_nI (by omega) (by decide), by decide, H⟩
    intro z
    have h9 : ¬ nI v < 0 := nI_pos (by omega)
    rw [z] at h9
    exact h9 (by decide)
  · rw [show fw_ac v n rA da = da from if_neg h] at H
    rw [show fw_ix v n = -2 from if_neg h]
    exact br_t rfl H
theorem fx_decision {post : Int32 → Prop} {a b : Nat} {p : Int32} (R : fw_R r rS rD rP rA n) (hn : n ≤ 16) (ha : a < 256) (hb : b < 256)
    (H : post (fw_ac (fw_ff (fw_lo1 (-1) (fw_M rS rD rP rA (nI (a % 16)) (nI (a / 16)) (nI (b / 16)) p)) n 0) n rA da)) : wpX_decision post (rc, cc, da, nI n, nI m, ck, r, pr, ad, po, st, ex, nx) (nI a) (nI b) p := by
  unfold wpX_decision
  have eb : nI b / 16 = nI (b / 16) := pk_div (d := 16) (by omega) (by decide) (by decide)
  dsimp only
  rw [eb]
  exact ⟨by decide, fx_firstMatch R hn ha (fx_actionOf R hn H)⟩
end FX
