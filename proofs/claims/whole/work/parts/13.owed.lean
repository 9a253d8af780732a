/-! what is owed -/
theorem i_up {k : Nat} {u : SX} {v : SY} (h : i_Rel k u v) : i_Rel (k + 4) u v := h
theorem i_vc0 : wpX_init (fun u => wpY_init (fun v => i_Rel 0 u v)) := by
  unfold wpX_init
  refine sc_xforget 0 ?_
  exact sc_rel0 (k := 0) (c := 0) (oc := 0) (by omega) (fun p hp => absurd hp (by omega)) (sc_T_0 _ _ _ _) ⟨fun _ _ => rfl, Or.inl ⟨rfl, fun _ _ => rfl⟩⟩
theorem i_vc_emit {k : Nat} {u : SX} {v : SY} (I : i_Rel k u v) (hk : k + 4 ≤ 2048) (v1 : Int32) (v2 : Int32) : wpX_emit (fun r u' => wpY_emit (fun r' v' => r' = r ∧ i_Rel (k + 4) u' v') v v1 v2) u v1 v2 := by
  obtain ⟨c, t, ou, pf, oc, aa, tn, op, ns, ha, fa, pl, lo, ce, la, co, ly, ls, rfl, rfl, hc, ht, hou, hI, hT, hG, hH⟩ := I
  unfold wpX_emit
  dsimp only
  rcases sc_instr (c := c) (pf := pf) (oc := oc) (aa := aa) (tn := tn) (tt := nI t) (oo := nI ou) (op := op) (ns := ns) (ha := ha) (fa := fa) (pl := pl) (lo := lo) (ce := ce) (la := la) (co := co) (ly := ly) (ls := ls) v1 v2 with ⟨o, ho, rfl, hn, wx, wy⟩ | ⟨wx, wy⟩
  · refine wx _ (br_f (by decide) ?_)
    by_cases c20 : c < 20
    · have lt : nI c < 20 := nI_lt (b := 20) c20 (by decide)
      have vc : vp_in (nI c) 20 := vp_in_nI c20 (by omega)
      have I' : sc_I (c + 1) (upd op c (nI o)) (upd ns c v2) := sc_I_u hI ho hn (fun p hp hne => by omega)
      obtain ⟨f', ha', fa', pl', T', wj⟩ := sc_xjudge (c := c + 1) (pf := pf) (tt := nI t) (oo := nI ou) (oc := oc) (ha := ha) (fa := fa) (pl := pl) (lo := lo) (ce := ce) (la := la) (by omega) (by omega) I'
      refine br_t lt (nm_r (nI_1 c) ⟨vc, nm_r (e' := upd op c (nI o)) (by rw [nI_clamp (by omega)]) ⟨vc, nm_r (e' := upd ns c v2) (by rw [nI_clamp (by omega)]) ?_⟩⟩)
      refine wj _ (sc_xforget _ ?_)
      show wpY_emit _ _ _ _
      unfold wpY_emit
      dsimp only
      refine wy _ (br_t rfl (br_t lt ⟨vc, nm_r (e' := upd op c (nI o)) (by rw [nI_clamp (by omega)]) ⟨vc, nm_r (e' := upd ns c v2) (by rw [nI_clamp (by omega)]) (nm_r (nI_1 c) ?_)⟩⟩))
      exact ⟨nI_pred c, sc_rel0 (by omega) I' T' hH⟩
    · have nlt : ¬ nI c < 20 := nI_nlt (b := 20) (by omega) (by omega)
      refine br_f nlt ?_
      show wpY_emit _ _ _ _
      unfold wpY_emit
      dsimp only
      exact wy _ (br_t rfl (br_f nlt ⟨rfl, sc_rel hc ht hou hI hT hG hH⟩))
  · refine wx _ (br_t rfl ?_)
    show wpY_emit _ _ _ _
    unfold wpY_emit
    dsimp only
    exact wy _ (br_f (by decide) ⟨rfl, sc_rel hc ht hou hI hT hG hH⟩)
theorem i_vc_patch {k : Nat} {u : SX} {v : SY} (I : i_Rel k u v) (hk : k + 4 ≤ 2048) (v1 : Int32) (v2 : Int32) (v3 : Int32) : wpX_patch (fun r u' => wpY_patch (fun r' v' => r' = r ∧ i_Rel (k + 4) u' v') v v1 v2 v3) u v1 v2 v3 := by
  obtain ⟨c, t, ou, pf, oc, aa, tn, op, ns, ha, fa, pl, lo, ce, la, co, ly, ls, rfl, rfl, hc, ht, hou, hI, hT, hG, hH⟩ := I
  unfold wpX_patch
  dsimp only
  by_cases i : 0 ≤ v1 ∧ v1 < nI c
  · obtain ⟨q, hq, rfl⟩ := (sc_ins c hc v1).mp i
    have vq : vp_in (nI q) 20 := vp_in_nI (by omega) (by omega)
    have a0 : ¬ nI q < 0 := nI_pos (by omega)
    have a1 : ¬ nI c ≤ nI q := nI_ge hq (by omega)
    refine sc_xpos1 hc hq (br_f (by decide) ?_)
    rcases sc_instr (c := c) (pf := pf) (oc := oc) (aa := aa) (tn := tn) (tt := nI t) (oo := nI ou) (op := op) (ns := ns) (ha := ha) (fa := fa) (pl := pl) (lo := lo) (ce := ce) (la := la) (co := co) (ly := ly) (ls := ls) v2 v3 with ⟨o, ho, rfl, hn, wx, wy⟩ | ⟨wx, wy⟩
    · have I' : sc_I c (upd op q (nI o)) (upd ns q v3) := sc_I_u hI ho hn (fun p hp _ => hp)
      obtain ⟨f', ha', fa', pl', T', wj⟩ := sc_xjudge (c := c) (pf := pf) (tt := nI t) (oo := nI ou) (oc := oc) (ha := ha) (fa := fa) (pl := pl) (lo := lo) (ce := ce) (la := la) (by omega) hc I'
      refine wx _ (br_f (by decide) ⟨vq, nm_r (e' := upd op q (nI o)) (by rw [nI_clamp (by omega)]) ⟨vq, nm_r (e' := upd ns q v3) (by rw [nI_clamp (by omega)]) ?_⟩⟩)
      refine wj _ (sc_xforget _ ?_)
      refine br_f a0 (br_f a1 (wy _ (br_t rfl ⟨vq, nm_r (e' := upd op q (nI o)) (by rw [nI_clamp (by omega)]) ⟨vq, nm_r (e' := upd ns q v3) (by rw [nI_clamp (by omega)]) ?_⟩⟩)))
      exact ⟨rfl, sc_rel0 hc I' T' hH⟩
    · refine wx _ (br_t rfl ?_)
      exact br_f a0 (br_f a1 (wy _ (br_f (by decide) ⟨rfl, sc_rel hc ht hou hI hT hG hH⟩)))
  · refine sc_xpos0 i (br_t rfl ?_)
    by_cases a : v1 < 0
    · exact br_t a ⟨rfl, sc_rel hc ht hou hI hT hG hH⟩
    · exact br_f a (br_t (Decidable.byContradiction fun n => i ⟨Int32.not_lt.mp a, Int32.not_le.mp n⟩) ⟨rfl, sc_rel hc ht hou hI hT hG hH⟩)
theorem i_vc_clear {k : Nat} {u : SX} {v : SY} (I : i_Rel k u v) (hk : k + 4 ≤ 2048) : wpX_clear (fun u' => wpY_clear (fun v' => i_Rel (k + 4) u' v') v) u := by
  obtain ⟨c, t, ou, pf, oc, aa, tn, op, ns, ha, fa, pl, lo, ce, la, co, ly, ls, rfl, rfl, hc, ht, hou, hI, hT, hG, hH⟩ := I
  unfold wpX_clear
  dsimp only
  refine sc_xforget 0 ?_
  exact sc_rel0 (k := k + 4) (c := 0) (by omega) (fun p hp => absurd hp (by omega)) (sc_T_0 _ _ _ _) hH
theorem i_vc_length {k : Nat} {u : SX} {v : SY} (I : i_Rel k u v) (hk : k + 4 ≤ 2048) : wpX_length (fun r => wpY_length (fun r' => r' = r ∧ i_Rel (k + 4) u v) v) u := by
  have J := i_up I
  obtain ⟨c, t, ou, pf, oc, aa, tn, op, ns, ha, fa, pl, lo, ce, la, co, ly, ls, rfl, rfl, hc, ht, hou, hI, hT, hG, hH⟩ := I
  exact ⟨rfl, J⟩
theorem i_vc_fits {k : Nat} {u : SX} {v : SY} (I : i_Rel k u v) (hk : k + 4 ≤ 2048) : wpX_fits (fun r => wpY_fits (fun r' v' => r' = r ∧ i_Rel (k + 4) u v') v) u := by
  obtain ⟨c, t, ou, pf, oc, aa, tn, op, ns, ha, fa, pl, lo, ce, la, co, ly, ls, rfl, rfl, hc, ht, hou, hI, hT, hG, hH⟩ := I
  obtain ⟨W, hP, hW⟩ := hT
  obtain ⟨co', wy⟩ := sc_yfits (oc := oc) (aa := aa) (tn := tn) (tt := nI t) (oo := nI ou) (co := co) (ce := ce) (ly := ly) (ls := ls) hc hI hP
  exact sc_xfits hc (fun p hp => (hW p hp).2) (wy _ ⟨rfl, sc_rel hc ht hou hI ⟨W, hP, hW⟩ hG hH⟩)
theorem i_vc_faults {k : Nat} {u : SX} {v : SY} (I : i_Rel k u v) (hk : k + 4 ≤ 2048) (v1 : Int32) : wpX_faults (fun r => wpY_faults (fun r' v' => r' = r ∧ i_Rel (k + 4) u v') v v1) u v1 := by
  obtain ⟨c, t, ou, pf, oc, aa, tn, op, ns, ha, fa, pl, lo, ce, la, co, ly, ls, rfl, rfl, hc, ht, hou, hI, hT, hG, hH⟩ := I
  have hT' := hT
  obtain ⟨W, hP, hW⟩ := hT
  unfold wpX_faults
  dsimp only
  by_cases i : 0 ≤ v1 ∧ v1 < nI c
  · obtain ⟨q, hq, rfl⟩ := (sc_ins c hc v1).mp i
    have vq : vp_in (nI q) 20 := vp_in_nI (by omega) (by omega)
    obtain ⟨co', wy⟩ := sc_yfaults (oc := oc) (aa := aa) (tn := tn) (tt := nI t) (oo := nI ou) (co := co) (ce := ce) (ly := ly) (ls := ls) hc hI hP hq
    refine sc_xpos1 hc hq (br_f (by decide) ⟨vq, wy _ ⟨?_, sc_rel hc ht hou hI hT' hG hH⟩⟩)
    rw [nI_clamp (by omega)]
    exact (hW q hq).2.symm
  · obtain ⟨co', wy⟩ := sc_yfaults0 (oc := oc) (aa := aa) (tn := tn) (tt := nI t) (oo := nI ou) (co := co) (ce := ce) (ly := ly) (ls := ls) hc hI i
    exact sc_xpos0 i (br_t rfl (wy _ ⟨rfl, sc_rel hc ht hou hI hT' hG hH⟩))
theorem i_vc_heights {k : Nat} {u : SX} {v : SY} (I : i_Rel k u v) (hk : k + 4 ≤ 2048) (v1 : Int32) : wpX_heights (fun r => wpY_heights (fun r' v' => r' = r ∧ i_Rel (k + 4) u v') v v1) u v1 := by
  obtain ⟨c, t, ou, pf, oc, aa, tn, op, ns, ha, fa, pl, lo, ce, la, co, ly, ls, rfl, rfl, hc, ht, hou, hI, hT, hG, hH⟩ := I
  have hT' := hT
  obtain ⟨W, hP, hW⟩ := hT
  obtain ⟨W', co', R, wy⟩ := sc_yfollow (oc := oc) (aa := aa) (tn := tn) (tt := nI t) (oo := nI ou) (co := co) (ce := ce) (ly := ly) (ls := ls) hc hI
  unfold wpX_heights
  dsimp only
  by_cases i : 0 ≤ v1 ∧ v1 < nI c
  · obtain ⟨q, hq, rfl⟩ := (sc_ins c hc v1).mp i
    have vq : vp_in (nI q) 20 := vp_in_nI (by omega) (by omega)
    refine sc_xpos1 hc hq (br_f (by decide) ⟨vq, ?_⟩)
    unfold wpY_heights
    dsimp only
    refine wy _ (sc_yin1 hc hq (br_f (by decide) ⟨vq, ?_, sc_rel hc ht hou hI hT' hG hH⟩))
    rw [nI_clamp (by omega)]
    show co' q = ha q
    rw [(R.1 q (by omega)).2, (hW q hq).1, sc_Pic_u (sc_o op) ns c hP R.2 hq]
  · refine sc_xpos0 i (br_t rfl ?_)
    unfold wpY_heights
    dsimp only
    exact wy _ (sc_yin0 i (br_t rfl ⟨rfl, sc_rel hc ht hou hI hT' hG hH⟩))
theorem i_vc_run {k : Nat} {u : SX} {v : SY} (I : i_Rel k u v) (hk : k + 4 ≤ 2048) (v1 : Int32) (v2 : Int32) : wpX_run (fun r u' => wpY_run (fun r' v' => r' = r ∧ i_Rel (k + 4) u' v') v v1 v2) u v1 v2 := by
  obtain ⟨c, t, ou, pf, oc, aa, tn, op, ns, ha, fa, pl, lo, ce, la, co, ly, ls, rfl, rfl, hc, ht, hou, hI, hT, hG, hH⟩ := I
  have hT' := hT
  obtain ⟨W, hP, hW⟩ := hT
  obtain ⟨co', wy⟩ := sc_yfits (oc := oc) (aa := aa) (tn := tn) (tt := nI t) (oo := nI ou) (co := co) (ce := ce) (ly := ly) (ls := ls) hc hI hP
  unfold wpX_run
  dsimp only
  refine sc_xfits hc (fun p hp => (hW p hp).2) ?_
  by_cases ft : 0 < c ∧ sc_ou (sc_F (sc_o op) ns c W) c = 0
  · have e : ¬ sc_fit op ns c W = 0 := by
      unfold sc_fit
      rw [if_pos ft]
      decide
    obtain ⟨r, t', ou', aa', tn', lo', ce', la', ls', g1, g2, g3, g4, rx, ry⟩ := sc_run (pf := pf) (ha := ha) (fa := fa) (pl := pl) (co := co') hc hI hP (sc_ou_0 ft.2) 820 0 0 0 0 0 (upd (upd (sc_l0 lo) 0 v1) 1 v2) ce la ls (by omega) ft.1 (by omega) (sc_R0 (sc_o op) ns c) (by omega) (by omega) (by omega) (sc_G_0 _ _)
    refine br_f e (sc_xforget (nI c) (nm_e (nm_e ⟨821, rx _ ?_⟩)))
    show wpY_run _ _ _ _
    unfold wpY_run
    dsimp only
    refine wy _ (br_f e ?_)
    refine nm_e (nm_e (nm_e (nm_r (sc_loc hH.1 v1 v2).symm ⟨822, ry _ ⟨rfl, ?_⟩⟩)))
    exact sc_rel hc g2 g3 hI hT' g4 ⟨fun _ _ => rfl, Or.inr ⟨g1, rfl⟩⟩
  · have e : sc_fit op ns c W = 0 := by
      unfold sc_fit
      rw [if_neg ft]
    refine br_t e ?_
    show wpY_run _ _ _ _
    unfold wpY_run
    dsimp only
    exact wy _ (br_t e ⟨rfl, sc_rel hc ht hou hI hT' hG hH⟩)
theorem i_vc_outcome {k : Nat} {u : SX} {v : SY} (I : i_Rel k u v) (hk : k + 4 ≤ 2048) : wpX_outcome (fun r => wpY_outcome (fun r' => r' = r ∧ i_Rel (k + 4) u v) v) u := by
  have J := i_up I
  obtain ⟨c, t, ou, pf, oc, aa, tn, op, ns, ha, fa, pl, lo, ce, la, co, ly, ls, rfl, rfl, hc, ht, hou, hI, hT, hG, hH⟩ := I
  exact ⟨rfl, J⟩
theorem i_vc_outs {k : Nat} {u : SX} {v : SY} (I : i_Rel k u v) (hk : k + 4 ≤ 2048) : wpX_outs (fun r => wpY_outs (fun r' => r' = r ∧ i_Rel (k + 4) u v) v) u := by
  have J := i_up I
  obtain ⟨c, t, ou, pf, oc, aa, tn, op, ns, ha, fa, pl, lo, ce, la, co, ly, ls, rfl, rfl, hc, ht, hou, hI, hT, hG, hH⟩ := I
  exact ⟨rfl, J⟩
theorem i_vc_lastOut {k : Nat} {u : SX} {v : SY} (I : i_Rel k u v) (hk : k + 4 ≤ 2048) (v1 : Int32) : wpX_lastOut (fun r => wpY_lastOut (fun r' => r' = r ∧ i_Rel (k + 4) u v) v v1) u v1 := by
  have J := i_up I
  obtain ⟨c, t, ou, pf, oc, aa, tn, op, ns, ha, fa, pl, lo, ce, la, co, ly, ls, rfl, rfl, hc, ht, hou, hI, hT, hG, hH⟩ := I
  rcases pk_ix v1 (n := 8) (by decide) with h | h | ⟨j, hj, rfl⟩
  · exact br_t h (br_t h ⟨rfl, J⟩)
  · obtain ⟨j, hj, h8, rfl⟩ := sc_le_nI (by decide) h
    exact br_f (nI_pos hj) (br_t h (br_f (nI_pos hj) (br_t (nI_lt (a := 7) (by omega) hj) ⟨rfl, J⟩)))
  · have a0 : ¬ nI j < 0 := nI_pos (by omega)
    have a8 : ¬ (8 : Int32) ≤ nI j := nI_ge (b := 8) hj (by decide)
    have a7 : ¬ (7 : Int32) < nI j := nI_nlt (a := 7) (by omega) (by decide)
    by_cases l : j < ou
    · obtain ⟨m, rfl⟩ : ∃ m, ou = m + 1 := ⟨ou - 1, by omega⟩
      have e : ((nI (m + 1) - 1) - nI j) - ((nI (m + 1) - 1) - nI j) / 8 * 8 = nI ((m - j) % 8) := by
        rw [nI_pred, pk_sub (by omega)]
        exact pk_rem (d := 8) (by omega) (by omega) (by omega)
      refine br_f a0 (br_f a8 (br_t (nI_lt l (by omega)) ⟨by decide, ?_⟩))
      rw [e]
      refine ⟨vp_in_nI (by omega) (by omega), br_f a0 (br_f a7 (br_f (nI_ge l (by omega)) ⟨vp_in_nI hj (by omega), ?_, J⟩))⟩
      rw [nI_clamp (by omega), nI_clamp (by omega)]
      exact (hG j hj l).symm
    · exact br_f a0 (br_f a8 (br_f (nI_nlt (by omega) (by omega)) (br_f a0 (br_f a7 (br_t (nI_le (by omega) (by omega)) ⟨rfl, J⟩)))))
theorem i_vc_local {k : Nat} {u : SX} {v : SY} (I : i_Rel k u v) (hk : k + 4 ≤ 2048) (v1 : Int32) : wpX_local (fun r => wpY_local (fun r' => r' = r ∧ i_Rel (k + 4) u v) v v1) u v1 := by
  have J := i_up I
  obtain ⟨c, t, ou, pf, oc, aa, tn, op, ns, ha, fa, pl, lo, ce, la, co, ly, ls, rfl, rfl, hc, ht, hou, hI, hT, hG, hH⟩ := I
  unfold wpX_local
  dsimp only
  rcases pk_ix v1 (n := 4) (by decide) with h | h | ⟨j, hj, rfl⟩
  · exact sc_xloc0 (Or.inl h) (br_t rfl (br_c (fun _ => ⟨rfl, J⟩) (fun _ => br_t h ⟨rfl, J⟩)))
  · refine sc_xloc0 (Or.inr h) (br_t rfl ?_)
    obtain ⟨j, hj, h4, rfl⟩ := sc_le_nI (by decide) h
    exact br_c (fun _ => ⟨rfl, J⟩) (fun _ => br_f (nI_pos hj) (br_t (nI_lt (a := 3) (by omega) hj) ⟨rfl, J⟩))
  · have a0 : ¬ nI j < 0 := nI_pos (by omega)
    have a3 : ¬ (3 : Int32) < nI j := nI_nlt (a := 3) (by omega) (by decide)
    have vj : vp_in (nI j) 4 := vp_in_nI hj (by omega)
    refine sc_xloc1 hj (br_f (by decide) ⟨vj, ?_⟩)
    rw [nI_clamp (by omega)]
    rcases hH.2 with ⟨z, f⟩ | ⟨z, f⟩
    · exact br_t z ⟨(f j hj).symm, J⟩
    · refine br_f z (br_f a0 (br_f a3 ⟨vj, ?_, J⟩))
      rw [nI_clamp (by omega), f]
theorem i_vc_height {k : Nat} {u : SX} {v : SY} (I : i_Rel k u v) (hk : k + 4 ≤ 2048) : wpX_height (fun r => wpY_height (fun r' => r' = r ∧ i_Rel (k + 4) u v) v) u := by
  have J := i_up I
  obtain ⟨c, t, ou, pf, oc, aa, tn, op, ns, ha, fa, pl, lo, ce, la, co, ly, ls, rfl, rfl, hc, ht, hou, hI, hT, hG, hH⟩ := I
  exact ⟨rfl, J⟩
theorem i_vc_cell {k : Nat} {u : SX} {v : SY} (I : i_Rel k u v) (hk : k + 4 ≤ 2048) (v1 : Int32) : wpX_cell (fun r => wpY_cell (fun r' => r' = r ∧ i_Rel (k + 4) u v) v v1) u v1 := by
  have J := i_up I
  obtain ⟨c, t, ou, pf, oc, aa, tn, op, ns, ha, fa, pl, lo, ce, la, co, ly, ls, rfl, rfl, hc, ht, hou, hI, hT, hG, hH⟩ := I
  rcases pk_ix v1 (n := t) (by omega) with h | h | ⟨j, hj, rfl⟩
  · exact br_t h (br_t h ⟨rfl, J⟩)
  · have a : ¬ v1 < 0 := Int32.not_lt.mpr (Int32.le_trans (nI_pos' (by omega)) h)
    exact br_f a (br_t h (br_f a (br_t h ⟨rfl, J⟩)))
  · have a0 : ¬ nI j < 0 := nI_pos (by omega)
    have a1 : ¬ nI t ≤ nI j := nI_ge hj (by omega)
    have vj : vp_in (nI j) 6 := vp_in_nI (by omega) (by omega)
    exact br_f a0 (br_f a1 ⟨vj, br_f a0 (br_f a1 ⟨vj, rfl, J⟩)⟩)
