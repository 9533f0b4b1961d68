theorem i_vc_packet {k : Nat} {u : SX} {v : SY} (I : i_Rel k u v) (hk : k + 5 ≤ 2563) (v1 : Int32) (v2 : Int32) (v3 : Int32) (v4 : Int32) : wpX_packet (fun r u' => wpY_packet (fun r' v' => r' = r ∧ i_Rel (k + 5) u' v') v v1 v2 v3 v4) u v1 v2 v3 v4 := by
  have I' := I
  obtain ⟨rc, cc, n, m, da, ck, fd, r, pr, ad, po, st, ex, nx, rS, rD, rP, rA, cp, cs, ct, cd, cu, cst, cx, cn0, cn1, rfl, rfl, hrc, hcc, hnr, hmc, R, E⟩ := I
  have hm : m ≤ 16 := by omega
  have hn : n ≤ 16 := by omega
  have J : ∀ e, i_Rel (k + 5) (nI rc, nI cc, da, nI n, nI m, ck, r, pr, ad, po, st, ex, nx) (nI rc, nI cc, da, nI n, nI m, ck, e, rS, rD, rP, rA, cp, cs, ct, cd, cu, cst, cx, cn0, cn1) := fun e => ⟨rc, cc, n, m, da, ck, e, r, pr, ad, po, st, ex, nx, rS, rD, rP, rA, cp, cs, ct, cd, cu, cst, cx, cn0, cn1, rfl, rfl, hrc, hcc, hnr, hmc, R, E⟩
  by_cases hG : fw_in v1 255 = true ∧ fw_in v2 255 = true ∧ fw_in v3 31 = true ∧ fw_in v4 255 = true ∧ ¬ ((v3 &&& 1) = 1 ∧ ¬ (v3 >>> ((1 : Int32) &&& 31)) = 0)
  case neg => exact fx_pk0 hG (fy_pk0 hG ⟨rfl, I'⟩)
  obtain ⟨i1, i2, i3, i4, hG⟩ := hG
  obtain ⟨a, ha, rfl⟩ : fw_r 256 v1 := (fw_in_r 255 (by decide)).mp i1
  obtain ⟨q, hq, rfl⟩ : fw_r 256 v2 := (fw_in_r 255 (by decide)).mp i2
  obtain ⟨w, hw, rfl⟩ : fw_r 32 v3 := (fw_in_r 31 (by decide)).mp i3
  obtain ⟨s, hs, rfl⟩ : fw_r 256 v4 := (fw_in_r 255 (by decide)).mp i4
  have hW : ¬ (w % 2 = 1 ∧ ¬ w / 2 = 0) := by
    intro ⟨c1, c2⟩
    have e1 : nI w &&& 1 = nI (w % 2) := pk_andN (by omega) 1 (by decide)
    have e2 : nI w >>> ((1 : Int32) &&& 31) = nI (w / 2) := pk_shrN (by omega) _ 1 (by decide)
    rw [e1, e2] at hG
    exact hG ⟨by rw [c1]; rfl, nI_ne0 (by omega) (by omega)⟩
  have hP : nI (w % 2) = 0 ∨ nI (w % 2) = 1 := by
    have c : w % 2 = 0 ∨ w % 2 = 1 := by omega
    rcases c with c | c
    · exact Or.inl (by rw [c]; rfl)
    · exact Or.inr (by rw [c]; rfl)
  have hsq : fw_r 256 ((nI s + 1) &&& 255) := pk_andE _ 8 (by decide)
  refine fx_pk1 ha hq hw hs hW ?_
  unfold wX_packet_57
  refine fx_lookup hm ha hq (fun i d F => br_f (fw_ne1 (by have := F.1; have := F.2.1; omega)) ?_) (fun N => br_t rfl ?_)
  · have hi := F.1
    have hd := F.2.1
    have hpi := fw_Fp F
    have YF := fun (post : Int32 → SY → Prop) => fun H => fy_pk1 (post := post) (rc := nI rc) (cc := nI cc) (da := da) (ck := ck) (fd := fd) (n := n) (rS := rS) (rD := rD) (rP := rP) (rA := rA) ha hq hw hs hW (fy_72F (FL := nI (w / 2)) E hm ha hq F H)
    refine br_c (fun p => ?_) (fun p => br_c (fun f8 => ?_) (fun f8 => ?_))
    · have d2 : d = 0 ∨ d = 1 := by omega
      rcases d2 with rfl | rfl
      · refine fx_udp (t := st i) (by omega) hd (Or.inr ⟨rfl, rfl⟩) (YF _ (fun j hj hg => br_t p (br_f (by decide) ?_)))
        rw [(fw_gx hg).2.2.2.1]
        exact fy_149 (by omega) ⟨rfl, rc, cc, n, m, da, ck, nI 0, r, pr, ad, po, _, _, nx, rS, rD, rP, rA, cp, cs, ct, cd, cu, _, _, cn0, cn1, rfl, rfl, hrc, hcc, hnr, hmc, R, fw_udp E hi hj hg (hpi.trans p) _ _⟩
      · refine fx_udp (t := 9) (by omega) hd (Or.inl ⟨rfl, rfl⟩) (YF _ (fun j hj hg => br_t p (br_t rfl ?_)))
        exact fy_149 (by omega) ⟨rfl, rc, cc, n, m, da, ck, nI 1, r, pr, ad, po, _, _, nx, rS, rD, rP, rA, cp, cs, ct, cd, cu, _, _, cn0, cn1, rfl, rfl, hrc, hcc, hnr, hmc, R, fw_udp E hi hj hg (hpi.trans p) _ _⟩
    · have hp0 : pr i = 0 := hpi.trans (hP.resolve_right p)
      have hp1 : ¬ pr i = 1 := by rw [hp0]; decide
      obtain ⟨o1, o2, o3, o4, o5, o6, o7⟩ := fw_okx E hi
      obtain ⟨k0, hk0, hst⟩ := o4 hp0
      have hv := fw_sa_ok ⟨k0, hk0, hst⟩ (nI d) (nI (w / 2)) (nI s) (nx (2 * i + d))
      refine fx_tcp (by omega) hd (fun e => YF _ (fun j hj hg => br_f p (br_t f8 ?_))) (fun e => YF _ (fun j hj hg => br_f p (br_t f8 ?_)))
      · have g4 := (fw_gx hg).2.2.2.1
        refine fy_tcp (by omega) hd hk0 (g4.trans hst) (fun _ => br_f (by decide) ⟨rfl, J _⟩) (fun x h1 h2 => ?_)
        rw [g4, ← fw_nxd hd hg hp1, e] at h1
        exact absurd h1.symm h2
      · have g4 := (fw_gx hg).2.2.2.1
        obtain ⟨k1, hk1, ev⟩ := hv.resolve_left e
        refine fy_tcp (by omega) hd hk0 (g4.trans hst) (fun h1 => ?_) (fun x h1 h2 => ?_)
        · rw [g4, ← fw_nxd hd hg hp1] at h1
          exact absurd h1 e
        · rw [g4, ← fw_nxd hd hg hp1, ev] at h1
          subst h1
          rw [ev]
          have v : vp_in (nI j) 16 := vp_in_nI (by omega) (by decide)
          unfold wY_packet_552
          rw [nI_clamp (n := j) (by omega)]
          have d2 : d = 0 ∨ d = 1 := by omega
          rcases d2 with rfl | rfl
          · exact br_t (nI_pos' (by omega)) (br_t rfl ⟨v, nm_e (fy_597 (by omega) ⟨rfl, rc, cc, n, m, da, ck, nI 0, r, pr, ad, po, _, _, _, rS, rD, rP, rA, cp, cs, ct, cd, cu, _, _, _, cn1, rfl, rfl, hrc, hcc, hnr, hmc, R, fw_tcp0 E hi hj hg hp0 _ _ hk1 hsq⟩)⟩)
          · exact br_t (nI_pos' (by omega)) (br_f (by decide) ⟨v, nm_e (fy_597 (by omega) ⟨rfl, rc, cc, n, m, da, ck, nI 1, r, pr, ad, po, _, _, _, rS, rD, rP, rA, cp, cs, ct, cd, cu, _, _, cn0, _, rfl, rfl, hrc, hcc, hnr, hmc, R, fw_tcp1 E hi hj hg hp0 _ _ hk1 hsq⟩)⟩)
    · have hp0 : pr i = 0 := hpi.trans (hP.resolve_right p)
      have hp1 : ¬ pr i = 1 := by rw [hp0]; decide
      obtain ⟨m', rfl⟩ : ∃ m', m = m' + 1 := ⟨m - 1, by omega⟩
      refine fx_rst (by omega) (by omega) hd (fun c => YF _ (fun j hj hg => br_f p (br_f f8 ?_))) (fun c => YF _ (fun j hj hg => br_f p (br_f f8 ?_)))
      · have g4 := (fw_gx hg).2.2.2.1
        have T : wY_packet_200 (fun r' v' => r' = 3 ∧ i_Rel (k + 5) (nI rc, nI cc, da, nI n, nI (m' + 1), ck, r, pr, ad, po, st, ex, nx) v') (nI s) (nI j) (nI d) (nI rc) (nI cc) da (nI n) (nI (m' + 1)) ck (nI d) rS rD rP rA cp cs ct cd cu cst cx cn0 cn1 := by
          refine fy_200 (by omega) hd (fun _ => ⟨rfl, J _⟩) (fun h => ?_)
          rw [← fw_nxd hd hg hp1] at h
          exact absurd (Or.inr h) c
        refine br_c (fun z => br_c (fun y => ?_) (fun _ => T)) (fun _ => T)
        exact absurd (Or.inl ⟨g4.symm.trans z, (nI_eq (b := 1) (by omega) (by decide)).mp y⟩) c
      · have g4 := (fw_gx hg).2.2.2.1
        have D := fy_213 (post := fun r' v' => r' = 5 ∧ i_Rel (k + 5) (nI rc, nI cc, da, nI n, nI m', ck, r, upd pr i (pr m'), upd ad i (ad m'), upd po i (po m'), upd st i (st m'), upd ex i (ex m'), upd (upd nx (2 * i) (nx (2 * m'))) (2 * i + 1) (nx (2 * m' + 1))) v') (rc := nI rc) (cc := nI cc) (da := da) (ck := ck) (fd := nI d) (n := n) (rS := rS) (rD := rD) (rP := rP) (rA := rA) (cp := cp) (cs := cs) (ct := ct) (cd := cd) (cu := cu) (cst := cst) (cx := cx) (cn0 := cn0) (cn1 := cn1) (j := j) (m' := m') (by omega) (by omega)
          (fun cp' cs' ct' cd' cu' cst' cx' cn0' cn1' h => ⟨rfl, rc, cc, n, m', da, ck, nI d, r, _, _, _, _, _, _, rS, rD, rP, rA, cp', cs', ct', cd', cu', cst', cx', cn0', cn1', rfl, rfl, hrc, hcc, hnr, by omega, R,
            fw_E_del E (fw_swap hi (fun j _ hn => fw_XT_n hn) (fun _ => fw_XT_s)) (fw_SH_e h hj) hg⟩)
        refine br_c (fun z => br_c (fun y => D) (fun y => fy_200 (by omega) hd (fun h => ?_) (fun _ => D))) (fun z => fy_200 (by omega) hd (fun h => ?_) (fun _ => D))
        · rw [← fw_nxd hd hg hp1] at h
          rcases c with c | c
          · exact absurd (by rw [c.2]; rfl) y
          · exact absurd (c.symm.trans h) (by decide)
        · rw [← fw_nxd hd hg hp1] at h
          rcases c with c | c
          · exact absurd (g4.trans c.1) z
          · exact absurd (c.symm.trans h) (by decide)
  · have YN := fun (post : Int32 → SY → Prop) => fun H => fy_pk1 (post := post) (rc := nI rc) (cc := nI cc) (da := da) (ck := ck) (fd := fd) (n := n) (rS := rS) (rD := rD) (rP := rP) (rA := rA) ha hq hw hs hW (fy_72N (FL := nI (w / 2)) E hm hn ha hq N H)
    unfold wpX_verdictOnUntracked
    dsimp only
    refine fx_decision R hn ha hq (br_c (fun e => br_f (by decide) (YN _ (br_t e ⟨rfl, I'⟩))) (fun e => br_c (fun p => br_c (fun f => ?_) (fun f => br_f (by decide) (YN _ (br_f e (br_t p (br_f f ⟨rfl, I'⟩)))))) (fun p => ?_)))
    · refine br_c (fun lt => br_t rfl ?_) (fun lt => br_f (by decide) (YN _ (br_f e (br_t p (br_t f (br_f lt ⟨rfl, I'⟩))))))
      have hmm : m < cc := (nI_ltI (by omega) (by omega)).mp lt
      refine fx_create (z := (nI s + 1) &&& 255) (t := 1) (by omega) (Or.inl ⟨p, rfl, rfl⟩) (YN _ (br_f e (br_t p (br_t f (br_t lt (br_t p (fy_681 (y0 := (nI s + 1) &&& 255) (by omega) (Or.inl ⟨p, rfl⟩) ⟨rfl, ?_⟩)))))))
      exact ⟨rc, cc, n, m + 1, da, ck, fd, r, _, _, _, _, _, _, rS, rD, rP, rA, _, _, _, _, _, _, _, _, _, rfl, rfl, hrc, hcc, hnr, hmm, R,
        fw_new E N ha hq ⟨Or.inl p, ⟨a, ha, rfl⟩, ⟨q, hq, rfl⟩, fun _ => ⟨0, by decide, rfl⟩, Or.inr hsq, Or.inl rfl, fun c => absurd (p.symm.trans c) (by decide)⟩ (if_neg (by rw [p]; decide)) (by split <;> rfl)⟩
    · have p1 := hP.resolve_left p
      refine br_c (fun lt => br_t rfl ?_) (fun lt => br_f (by decide) (YN _ (br_f e (br_f p (br_f lt ⟨rfl, I'⟩)))))
      have hmm : m < cc := (nI_ltI (by omega) (by omega)).mp lt
      refine fx_create (z := -1) (t := 8) (by omega) (Or.inr ⟨p, rfl, rfl⟩) (YN _ (br_f e (br_f p (br_t lt (br_f p (fy_681 (y0 := 0) (by omega) (Or.inr ⟨p, rfl⟩) ⟨rfl, ?_⟩))))))
      exact ⟨rc, cc, n, m + 1, da, ck, fd, r, _, _, _, _, _, _, rS, rD, rP, rA, _, _, _, _, _, _, _, _, _, rfl, rfl, hrc, hcc, hnr, hmm, R,
        fw_new E N ha hq ⟨Or.inr p1, ⟨a, ha, rfl⟩, ⟨q, hq, rfl⟩, fun c => absurd c p, Or.inl rfl, Or.inl rfl, fun _ => ⟨rfl, rfl⟩⟩ (if_pos p1) (by split <;> rfl)⟩
