theorem fx_timeout {post : Int32 → Prop} {p : Int32} (H : post (fw_to p)) : wpX_timeout post p := by
  have A : (∀ z : Int32, z = 1 ∨ z = 2 ∨ z = 3 ∨ z = 4 ∨ z = 5 ∨ z = 6 ∨ z = 7 ∨ z = 8 → p ≠ z) → fw_to p = 30 := by
    intro h
    unfold fw_to
    rw [if_neg (h 1 (by decide)), if_neg (h 2 (by decide)), if_neg (h 3 (by decide)), if_neg (h 4 (by decide)), if_neg (h 5 (by decide)), if_neg (h 6 (by decide)), if_neg (h 7 (by decide)), if_neg (h 8 (by decide))]
  refine br_c (fun a => ?_) (fun a => br_c (fun b => ?_) (fun b => br_c (fun e => ?_) (fun _ => br_c (fun e => ?_) (fun _ => br_c (fun e => ?_) (fun _ => br_c (fun e => ?_) (fun _ => br_c (fun e => ?_) (fun _ => br_c (fun e => ?_) (fun _ => br_c (fun e => ?_) (fun _ => br_c (fun e => ?_) (fun _ => trivial))))))))))
  · rw [A (by rintro z (rfl | rfl | rfl | rfl | rfl | rfl | rfl | rfl) rfl <;> exact absurd a (by decide))] at H; exact H
  · rw [A (by rintro z (rfl | rfl | rfl | rfl | rfl | rfl | rfl | rfl) rfl <;> exact absurd b (by decide))] at H; exact H
  · subst e; exact H
  · subst e; exact H
  · subst e; exact H
  · subst e; exact H
  · subst e; exact H
  · subst e; exact H
  · subst e; exact H
  · subst e; exact H
theorem fx_inWindow {post : Int32 → Prop} {s x : Int32} (H : post (fw_b (fw_iw s x))) : wpX_inWindow post s x := by
  refine br_c (fun a => ?_) (fun a => ?_)
  · rw [show fw_iw s x = false from decide_eq_false (Int32.not_lt.mpr a)] at H; exact H
  · rw [show fw_iw s x = true from decide_eq_true (Int32.not_le.mp a)] at H; exact H
theorem fx_retransmits {post : Int32 → Prop} {s x : Int32} (H : post (fw_b (fw_rt s x))) : wpX_retransmits post s x := by
  refine br_c (fun a => ?_) (fun a => ?_)
  · rw [show fw_rt s x = true from decide_eq_true a] at H; exact H
  · rw [show fw_rt s x = false from decide_eq_false a] at H; exact H
theorem fx_stateAfterFin {post : Int32 → Prop} {st d : Int32} (H : post (fw_fin st d)) : wpX_stateAfterFin post st d := by
  unfold fw_fin at H
  refine br_c (fun a => br_t a (br_c (fun b => ?_) (fun b => br_c (fun c => ?_) (fun c => ?_)))) (fun a => br_f a (br_c (fun b => ?_) (fun b => br_c (fun c => ?_) (fun c => ?_))))
  · rw [if_pos b, if_pos a] at H; exact H
  · rw [if_neg b, if_pos a, if_pos c] at H; exact H
  · rw [if_neg b, if_pos a, if_neg c] at H; exact H
  · rw [if_pos b, if_neg a] at H; exact H
  · rw [if_neg b, if_neg a, if_pos c] at H; exact H
  · rw [if_neg b, if_neg a, if_neg c] at H; exact H
theorem fx_stateAfter {post : Int32 → Prop} {st d fl s x : Int32} (H : post (fw_sa st d fl s x)) : wpX_stateAfter post st d fl s x := by
  unfold fw_sa at H
  refine br_c (fun a => ?_) (fun a => br_c (fun b => ?_) (fun b => fx_inWindow (fw_br (fun c => ?_) (fun c => br_c (fun e => br_c (fun g => ?_) (fun g => ?_)) (fun e => br_c (fun g => fx_stateAfterFin ?_) (fun g => ?_))))))
  · rw [if_pos a] at H
    refine br_c (fun b => br_c (fun c => fx_retransmits (fw_br (fun e => ?_) (fun e => ?_))) (fun c => ?_)) (fun b => br_c (fun c => ?_) (fun c => ?_))
    · rw [if_pos b, if_neg (fun z => absurd (z.2.symm.trans e) (by decide))] at H; exact H
    · rw [if_pos b, if_pos ⟨c, e⟩] at H; exact H
    · rw [if_pos b, if_neg (fun z => c z.1)] at H; exact H
    · rw [if_neg b, if_pos c] at H; exact H
    · rw [if_neg b, if_neg c] at H; exact H
  · rw [if_neg a, if_pos b] at H
    refine br_c (fun b => br_c (fun c => fx_inWindow (fw_br (fun e => ?_) (fun e => ?_))) (fun c => ?_)) (fun b => br_c (fun c => fx_retransmits (fw_br (fun e => ?_) (fun e => ?_))) (fun c => ?_))
    · rw [if_pos b, if_neg (fun z => absurd (z.2.symm.trans e) (by decide))] at H; exact H
    · rw [if_pos b, if_pos ⟨c, e⟩] at H; exact H
    · rw [if_pos b, if_neg (fun z => c z.1)] at H; exact H
    · rw [if_neg b, if_neg (fun z => absurd (z.2.symm.trans e) (by decide))] at H; exact H
    · rw [if_neg b, if_pos ⟨c, e⟩] at H; exact H
    · rw [if_neg b, if_neg (fun z => c z.1)] at H; exact H
  · rw [if_neg a, if_neg b, if_neg (by rw [c]; decide)] at H; exact H
  · rw [if_neg a, if_neg b, if_pos c, if_pos e, if_pos g] at H; exact H
  · rw [if_neg a, if_neg b, if_pos c, if_pos e, if_neg g] at H; exact H
  · rw [if_neg a, if_neg b, if_pos c, if_neg e, if_pos g] at H; exact H
  · rw [if_neg a, if_neg b, if_pos c, if_neg e, if_neg g] at H; exact H
section PX
variable {rc cc da ck : Int32} {r pr ad po st ex nx : Nat → Int32} {n m : Nat}
theorem fx_enter {post : SX → Prop} {i : Nat} {s : Int32} (hi : i < 16) (H : post (rc, cc, da, nI n, nI m, ck, r, pr, ad, po, upd st i s, upd ex i (ck + fw_to s), nx)) : wpX_enterState post (rc, cc, da, nI n, nI m, ck, r, pr, ad, po, st, ex, nx) (nI i) s := by
  unfold wpX_enterState
  dsimp only
  have v : vp_in (nI i) 16 := vp_in_nI (by omega) (by decide)
  rw [nI_clamp (n := i) (by omega)]
  exact ⟨v, nm_e (fx_timeout ⟨v, nm_e H⟩)⟩
theorem fx_create {post : SX → Prop} {a q p s z t : Int32} (hm : m < 16) (hp : (p = 0 ∧ z = ((s + 1) &&& 255) ∧ t = 1) ∨ (¬ p = 0 ∧ z = -1 ∧ t = 8))
    (H : post (rc, cc, da, nI n, nI (m + 1), ck, r, upd pr m p, upd ad m a, upd po m q, upd st m t, upd ex m (ck + fw_to t), upd (upd nx (2 * m) z) (2 * m + 1) (-1))) : wpX_createEntry post (rc, cc, da, nI n, nI m, ck, r, pr, ad, po, st, ex, nx) a q p s := by
  unfold wpX_createEntry
  dsimp only
  have v : vp_in (nI m) 16 := vp_in_nI (by omega) (by decide)
  have w : vp_in (nI (2 * m)) 32 := vp_in_nI (by omega) (by decide)
  have w' : vp_in (nI (2 * m + 1)) 32 := vp_in_nI (by omega) (by decide)
  rw [nI_clamp (n := m) (by omega), fw_2z]
  refine nm_r (nI_1 m) ⟨v, nm_e ⟨v, nm_e ⟨v, nm_e ?_⟩⟩⟩
  rcases hp with ⟨h1, h2, h3⟩ | ⟨h1, h2, h3⟩
  · subst h2 h3
    refine br_t h1 ?_
    unfold wpX_seqAfter wX_createEntry_61
    rw [fw_21, nI_clamp (n := 2 * m) (by omega), nI_clamp (n := 2 * m + 1) (by omega)]
    exact ⟨w, nm_e ⟨w', nm_e (br_t h1 (fx_enter hm H))⟩⟩
  · subst h2 h3
    refine br_f h1 ?_
    unfold wX_createEntry_61
    rw [fw_21, nI_clamp (n := 2 * m) (by omega), nI_clamp (n := 2 * m + 1) (by omega)]
    exact ⟨w, nm_e ⟨w', nm_e (br_f h1 (fx_enter hm H))⟩⟩
theorem fx_udp {post : Int32 → SX → Prop} {i d : Nat} {t : Int32} (hi : i < 16) (hd : d < 2) (ht : (d = 1 ∧ t = 9) ∨ (d = 0 ∧ t = st i))
    (H : post 2 (rc, cc, da, nI n, nI m, ck, r, pr, ad, po, upd st i t, upd ex i (ck + fw_to t), nx)) : wpX_packetOfUdpEntry post (rc, cc, da, nI n, nI m, ck, r, pr, ad, po, st, ex, nx) (nI (2 * i + d)) := by
  unfold wpX_packetOfUdpEntry
  dsimp only
  rw [fw_h1 hi hd, fw_h2 hi hd]
  refine ⟨by decide, nm_e ⟨by decide, ?_⟩⟩
  rw [nI_clamp (n := i) (by omega)]
  rcases ht with ⟨h1, h2⟩ | ⟨h1, h2⟩
  · subst h1 h2
    exact br_t rfl (fx_enter hi H)
  · subst h1 h2
    exact br_f (by decide) ⟨vp_in_nI (by omega) (by decide), fx_enter hi H⟩
theorem fx_tcp {post : Int32 → SX → Prop} {i d : Nat} {fl s : Int32} (hi : i < 16) (hd : d < 2)
    (h0 : fw_sa (st i) (nI d) fl s (nx (2 * i + d)) = 0 → post 3 (rc, cc, da, nI n, nI m, ck, r, pr, ad, po, st, ex, nx))
    (h1 : ¬ fw_sa (st i) (nI d) fl s (nx (2 * i + d)) = 0 → post 2 (rc, cc, da, nI n, nI m, ck, r, pr, ad, po, upd st i (fw_sa (st i) (nI d) fl s (nx (2 * i + d))), upd ex i (ck + fw_to (fw_sa (st i) (nI d) fl s (nx (2 * i + d)))), upd nx (2 * i + d) ((s + 1) &&& 255))) :
    wpX_packetOfTcpEntry post (rc, cc, da, nI n, nI m, ck, r, pr, ad, po, st, ex, nx) (nI (2 * i + d)) fl s := by
  unfold wpX_packetOfTcpEntry
  dsimp only
  rw [fw_h1 hi hd, fw_h2 hi hd]
  have v : vp_in (nI i) 16 := vp_in_nI (by omega) (by decide)
  have w : vp_in (nI (2 * i + d)) 32 := vp_in_nI (by omega) (by decide)
  refine ⟨by decide, nm_e ⟨v, by decide, w, ?_⟩⟩
  rw [nI_clamp (n := i) (by omega), nI_clamp (n := 2 * i + d) (by omega)]
  exact fx_stateAfter (br_c (fun e => h0 e) (fun e => ⟨w, nm_e (fx_enter hi (h1 e))⟩))
theorem fx_rst {post : Int32 → SX → Prop} {i d m' : Nat} {s : Int32} (hm : m' < 16) (hi : i ≤ m') (hd : d < 2)
    (h0 : ¬ ((st i = 1 ∧ d = 1) ∨ fw_iw s (nx (2 * i + d)) = true) → post 3 (rc, cc, da, nI n, nI (m' + 1), ck, r, pr, ad, po, st, ex, nx))
    (h1 : ((st i = 1 ∧ d = 1) ∨ fw_iw s (nx (2 * i + d)) = true) → post 5 (rc, cc, da, nI n, nI m', ck, r, upd pr i (pr m'), upd ad i (ad m'), upd po i (po m'), upd st i (st m'), upd ex i (ex m'), upd (upd nx (2 * i) (nx (2 * m'))) (2 * i + 1) (nx (2 * m' + 1)))) :
    wpX_resetOfTcpEntry post (rc, cc, da, nI n, nI (m' + 1), ck, r, pr, ad, po, st, ex, nx) (nI (2 * i + d)) s := by
  have v : vp_in (nI i) 16 := vp_in_nI (by omega) (by decide)
  have w : vp_in (nI (2 * i + d)) 32 := vp_in_nI (by omega) (by decide)
  have B : ¬ (st i = 1 ∧ d = 1) → wX_resetOfTcpEntry_26 post (nI (2 * i + d)) s (nI i) 0 rc cc da (nI n) (nI (m' + 1)) ck r pr ad po st ex nx := by
    intro c
    unfold wX_resetOfTcpEntry_26
    rw [nI_clamp (n := 2 * i + d) (by omega)]
    refine br_t rfl ⟨w, fx_inWindow (fw_br (fun b => h0 ?_) (fun b => fx_rem hm hi (h1 (Or.inr b))))⟩
    rintro (z | z)
    · exact c z
    · exact absurd (z.symm.trans b) (by decide)
  unfold wpX_resetOfTcpEntry
  dsimp only
  rw [fw_h1 (by omega) hd, fw_h2 (by omega) hd]
  refine ⟨by decide, nm_e ⟨v, ?_⟩⟩
  rw [nI_clamp (n := i) (by omega)]
  refine br_c (fun a => ⟨by decide, br_c (fun b => ?_) (fun b => B ?_)⟩) (fun a => B (fun z => a z.1))
  · have e : d = 1 := (nI_eq (b := 1) (by omega) (by decide)).mp b
    exact br_f (by decide) (fx_rem hm hi (h1 (Or.inl ⟨a, e⟩)))
  · intro z
    exact b (by rw [z.2]; rfl)
theorem fx_pk0 {post : Int32 → SX → Prop} {p0 p1 p2 p3 : Int32} (hG : ¬ (fw_in p0 255 = true ∧ fw_in p1 255 = true ∧ fw_in p2 31 = true ∧ fw_in p3 255 = true ∧ ¬ ((p2 &&& 1) = 1 ∧ ¬ (p2 >>> ((1 : Int32) &&& 31)) = 0)))
    (H : post (-1) (rc, cc, da, nI n, nI m, ck, r, pr, ad, po, st, ex, nx)) : wpX_packet post (rc, cc, da, nI n, nI m, ck, r, pr, ad, po, st, ex, nx) p0 p1 p2 p3 := by
  unfold wpX_packet
  dsimp only
  refine fx_inRange (fw_br (fun _ => H) (fun h2 => fx_inRange (fw_br (fun _ => H) (fun h3 => ?_))))
  have r2 : fw_r 32 p2 := (fw_in_r 31 (by decide)).mp h2
  rw [fw_md2 r2 (by decide), fw_dv2 r2 (by decide)]
  refine ⟨by decide, nm_e ⟨by decide, nm_e (fx_validHeader (fw_br (fun _ => H) (fun h => ?_)))⟩⟩
  unfold fw_hd at h
  rw [Bool.and_eq_true, Bool.and_eq_true] at h
  exact br_c (fun e => br_c (fun z => absurd ⟨h.1, h.2.1, h2, h3, fun c => c.2 z⟩ hG) (fun _ => H)) (fun e => absurd ⟨h.1, h.2.1, h2, h3, fun c => e c.1⟩ hG)
theorem fx_pk1 {post : Int32 → SX → Prop} {a q w s : Nat} (ha : a < 256) (hq : q < 256) (hw : w < 32) (hs : s < 256) (hG : ¬ (w % 2 = 1 ∧ ¬ w / 2 = 0))
    (H : wX_packet_57 post (nI a) (nI q) (nI s) (nI (w % 2)) (nI (w / 2)) rc cc da (nI n) (nI m) ck r pr ad po st ex nx) : wpX_packet post (rc, cc, da, nI n, nI m, ck, r, pr, ad, po, st, ex, nx) (nI a) (nI q) (nI w) (nI s) := by
  unfold wpX_packet
  dsimp only
  have e1 : nI w - nI w / 2 * 2 = nI (w % 2) := pk_rem (d := 2) (by omega) (by decide) (by decide)
  have e2 : nI w / 2 = nI (w / 2) := pk_div (d := 2) (by omega) (by decide) (by decide)
  rw [e1, e2]
  refine fx_inRange (fw_bt ((fw_in_r 31 (by decide)).mpr ⟨w, hw, rfl⟩) (fx_inRange (fw_bt ((fw_in_r 255 (by decide)).mpr ⟨s, hs, rfl⟩) ⟨by decide, nm_e ⟨by decide, nm_e (fx_validHeader (fw_bt ?_ ?_))⟩⟩)))
  · unfold fw_hd
    have i1 : fw_in (nI a) 255 = true := (fw_in_r 255 (by decide)).mpr ⟨a, ha, rfl⟩
    have i2 : fw_in (nI q) 255 = true := (fw_in_r 255 (by decide)).mpr ⟨q, hq, rfl⟩
    have i3 : fw_in (nI (w % 2)) 1 = true := (fw_in_r 1 (by decide)).mpr ⟨w % 2, by omega, rfl⟩
    rw [i1, i2, i3]
    rfl
  · refine br_c (fun e => br_c (fun _ => H) (fun z => ?_)) (fun _ => H)
    refine absurd ⟨(nI_eq (b := 1) (by omega) (by decide)).mp e, fun c => z ?_⟩ hG
    rw [c]; rfl
end PX
