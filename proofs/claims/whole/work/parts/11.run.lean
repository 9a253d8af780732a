/-! the run, both sides in step -/
section
variable {c : Nat} {pf : Int32} {op ns ha fa pl co : Nat → Int32}
theorem sc_run (hc : c ≤ 20) (I : sc_I c op ns) {W : Nat → Nat} (hP : sc_Pic (sc_o op) ns c W) (hF : ∀ p, p < c → sc_F (sc_o op) ns c W p = 0) :
    ∀ (d k pc tn t ou : Nat) (lo ce la ls : Nat → Int32), k + d = 820 → pc < c → t < 7 → sc_R (sc_o op) ns c pc t → k ≤ 20 * tn + pc → tn ≤ 40 → ou ≤ k → sc_G ou la ls →
    ∃ (r : Int32) (t' ou' : Nat) (aa' tn' : Int32) (lo' ce' la' ls' : Nat → Int32), ¬ r = 0 ∧ t' < 7 ∧ ou' ≤ 1000 ∧ sc_G ou' la' ls' ∧
      (∀ post : Int32 → SX → Prop, post r (nI c, pf, nI t', nI ou', 0, op, ns, ha, fa, pl, lo', ce', la') → wX_carryOutAll_6 post (d + 1) (nI pc) (nI tn) (nI k) (nI c) pf (nI t) (nI ou) 0 op ns ha fa pl lo ce la) ∧
      (∀ post : Int32 → SY → Prop, post r (nI c, r, aa', tn', nI t', nI ou', op, ns, co, ce', lo', ls') → wY_run_53 post (d + 2) (nI k) (nI c) 0 (nI pc) (nI tn) (nI t) (nI ou) op ns co ce lo ls) := by
  intro d
  induction d with
  | zero =>
    intro k pc tn t ou lo ce la ls hk hpc ht hR hkp htn hou G
    omega
  | succ d ih =>
    intro k pc tn t ou lo ce la ls hk hpc ht hR hkp htn hou G
    obtain ⟨s1, s2, s3, s4⟩ := sc_safe (sc_o op) ns c hc hP hF hpc ht hR
    obtain ⟨i1, i2, i3⟩ := I pc hpc
    have vq : vp_in (nI pc) 20 := vp_in_nI (by omega) (by omega)
    have eo : op (nI pc).toNatClampNeg = nI (sc_o op pc) := by rw [nI_clamp (by omega)]; exact i1
    have en : ns (nI pc).toNatClampNeg = ns pc := by rw [nI_clamp (by omega)]
    have x1 : ¬ (100000 : Int32) ≤ nI k := nI_ge (b := 100000) (by omega) (by decide)
    have y1 : ¬ (900 : Int32) ≤ nI k := nI_ge (b := 900) (by omega) (by decide)
    have e1 : nI pc + 1 = nI (pc + 1) := nI_1 pc
    have k20 : 20 * tn + pc ≤ 819 := by omega
    by_cases o13 : sc_o op pc = 13
    · rw [o13] at eo
      refine ⟨1, t, ou, nI pc, nI tn, lo, ce, la, ls, by decide, ht, by omega, G, fun post hp => ?_, fun post hp => ?_⟩
      · exact br_f x1 (sc_xpos1 hc hpc (br_f (by decide) ⟨vq, nm_r eo (br_t rfl hp)⟩))
      · exact br_f y1 (br_t rfl (sc_yin1 hc hpc (br_f (by decide) ⟨vq, nm_r eo (br_t rfl (nm_r (nI_1 k) (br_c (fun _ => hp) (fun _ => br_f (by decide) hp))))⟩)))
    · by_cases tt : sc_o op pc = 11 ∨ sc_o op pc = 12
      · obtain ⟨q, hq, eq⟩ := s4 tt
        by_cases t40 : tn < 40
        · have lt : nI tn < 40 := nI_lt (b := 40) t40 (by decide)
          rcases tt with o11 | o12
          · rw [o11] at eo s1 s2
            have m : sc_nd 11 = 1 := by decide
            have r : sc_rs 11 = 0 := by decide
            obtain ⟨s, rfl⟩ : ∃ s, t = s + 1 := ⟨t - 1, by omega⟩
            by_cases z : ce s = 0
            · obtain ⟨r', t', ou', aa', tn', lo', ce', la', ls', g1, g2, g3, g4, wx, wy⟩ := ih (k + 1) q (tn + 1) s ou lo ce la ls (by omega) hq (by omega)
                (sc_Rs (sc_o op) ns c hpc ht hR ⟨by rw [o11]; omega, by rw [o11]; omega, by rw [o11]; omega, hq, Or.inr ⟨Or.inl o11, eq⟩⟩) (by omega) (by omega) (by omega) G
              refine ⟨r', t', ou', aa', tn', lo', ce', la', ls', g1, g2, g3, g4, fun post hp => ?_, fun post hp => ?_⟩
              · refine br_f x1 (sc_xpos1 hc hpc (br_f (by decide) ⟨vq, nm_r eo (br_f (by decide) (br_t rfl (br_t lt (nm_r (nI_1 tn) ⟨vq, br_t eo (sc_xpop (by omega) (br_t z ⟨vq, nm_r (nI_1 k) ?_⟩))⟩))))⟩))
                rw [en, eq]
                exact wx post hp
              · refine br_f y1 (br_t rfl (sc_yin1 hc hpc (br_f (by decide) ⟨vq, nm_r eo (br_f (by decide) (br_t rfl (br_t lt ⟨vq, ?_⟩)))⟩)))
                rw [en, eq]
                refine sc_yco1 (by omega) m (by omega) ?_
                refine br_f (by decide) (br_f (by decide) (br_f (by decide) (br_t (by decide) (br_f (by decide) (br_f (by decide) (br_f (by decide) (br_t rfl ?_)))))))
                exact nm_r (nI_1 tn) (br_f (by decide) (br_t z (nm_r (nI_1 k) (wy post hp))))
            · have p1 : pc + 1 < c := s3 (by omega)
              obtain ⟨r', t', ou', aa', tn', lo', ce', la', ls', g1, g2, g3, g4, wx, wy⟩ := ih (k + 1) (pc + 1) (tn + 1) s ou lo ce la ls (by omega) p1 (by omega)
                (sc_Rs (sc_o op) ns c hpc ht hR ⟨by rw [o11]; omega, by rw [o11]; omega, by rw [o11]; omega, p1, Or.inl ⟨by omega, rfl⟩⟩) (by omega) (by omega) (by omega) G
              refine ⟨r', t', ou', aa', tn', lo', ce', la', ls', g1, g2, g3, g4, fun post hp => ?_, fun post hp => ?_⟩
              · refine br_f x1 (sc_xpos1 hc hpc (br_f (by decide) ⟨vq, nm_r eo (br_f (by decide) (br_t rfl (br_t lt (nm_r (nI_1 tn) ⟨vq, br_t eo (sc_xpop (by omega) (br_f z (nm_r (nI_1 k) ?_)))⟩))))⟩))
                rw [e1]
                exact wx post hp
              · refine br_f y1 (br_t rfl (sc_yin1 hc hpc (br_f (by decide) ⟨vq, nm_r eo (br_f (by decide) (br_t rfl (br_t lt ⟨vq, ?_⟩)))⟩)))
                rw [en, eq]
                refine sc_yco1 (by omega) m (by omega) ?_
                refine br_f (by decide) (br_f (by decide) (br_f (by decide) (br_t (by decide) (br_f (by decide) (br_f (by decide) (br_f (by decide) (br_t rfl ?_)))))))
                exact nm_r (nI_1 tn) (br_f (by decide) (br_f z (nm_r (nI_1 k) (wy post hp))))
          · rw [o12] at eo s1 s2
            have m : sc_nd 12 = 0 := by decide
            have r : sc_rs 12 = 1 := by decide
            obtain ⟨r', t', ou', aa', tn', lo', ce', la', ls', g1, g2, g3, g4, wx, wy⟩ := ih (k + 1) q (tn + 1) t ou lo ce la ls (by omega) hq (by omega)
              (sc_Rs (sc_o op) ns c hpc ht hR ⟨by rw [o12]; omega, by rw [o12]; omega, by rw [o12]; omega, hq, Or.inr ⟨Or.inr o12, eq⟩⟩) (by omega) (by omega) (by omega) G
            refine ⟨r', t', ou', aa', tn', lo', ce', la', ls', g1, g2, g3, g4, fun post hp => ?_, fun post hp => ?_⟩
            · refine br_f x1 (sc_xpos1 hc hpc (br_f (by decide) ⟨vq, nm_r eo (br_f (by decide) (br_f (by decide) (br_t rfl (br_t lt (nm_r (nI_1 tn) ⟨vq, br_f (by rw [eo]; decide) ⟨vq, nm_r (nI_1 k) ?_⟩⟩)))))⟩))
              rw [en, eq]
              exact wx post hp
            · refine br_f y1 (br_t rfl (sc_yin1 hc hpc (br_f (by decide) ⟨vq, nm_r eo (br_f (by decide) (br_f (by decide) (br_t rfl (br_t lt ⟨vq, ?_⟩))))⟩)))
              rw [en, eq]
              refine sc_yco0 (by omega) m ?_
              refine br_f (by decide) (br_f (by decide) (br_f (by decide) (br_t (by decide) (br_f (by decide) (br_f (by decide) (br_f (by decide) (br_f (by decide) (br_t rfl ?_))))))))
              exact nm_r (nI_1 tn) (br_t rfl (nm_r (nI_1 k) (wy post hp)))
        · have nlt : ¬ nI tn < 40 := nI_nlt (b := 40) (by omega) (by omega)
          refine ⟨2, t, ou, nI pc, nI tn, lo, ce, la, ls, by decide, ht, by omega, G, fun post hp => ?_, fun post hp => ?_⟩
          · refine br_f x1 (sc_xpos1 hc hpc (br_f (by decide) ⟨vq, nm_r eo ?_⟩))
            rcases tt with o11 | o12
            · rw [o11]
              exact br_f (by decide) (br_t rfl (br_f nlt hp))
            · rw [o12]
              exact br_f (by decide) (br_f (by decide) (br_t rfl (br_f nlt hp)))
          · refine br_f y1 (br_t rfl (sc_yin1 hc hpc (br_f (by decide) ⟨vq, nm_r eo ?_⟩)))
            rcases tt with o11 | o12
            · rw [o11]
              exact br_f (by decide) (br_t rfl (br_f nlt (nm_r (nI_1 k) (br_c (fun _ => hp) (fun _ => br_f (by decide) hp)))))
            · rw [o12]
              exact br_f (by decide) (br_f (by decide) (br_t rfl (br_f nlt (nm_r (nI_1 k) (br_c (fun _ => hp) (fun _ => br_f (by decide) hp))))))
      · have h11 : sc_o op pc < 11 := by omega
        have p1 : pc + 1 < c := s3 (by omega)
        obtain ⟨t1, ou1, lo1, ce1, la1, ls1, et, G1, hou1, wx1, wy1⟩ := sc_step (c := c) (pf := pf) (oc := 0) (tn := nI tn) (op := op) (ns := ns) (ha := ha) (fa := fa) (pl := pl) (co := co) (pc := pc) (n := ns pc) (lo := lo) (ce := ce) h11 s1 s2 i3 G (by omega) ht
        obtain ⟨r', t', ou', aa', tn', lo', ce', la', ls', g1, g2, g3, g4, wx, wy⟩ := ih (k + 1) (pc + 1) tn t1 ou1 lo1 ce1 la1 ls1 (by omega) p1 (by omega)
          (sc_Rs (sc_o op) ns c hpc ht hR ⟨s1, s2, et, p1, Or.inl ⟨by omega, rfl⟩⟩) (by omega) (by omega) (by omega) G1
        have n13 : ¬ nI (sc_o op pc) = 13 := fun z => o13 ((nI_eq (b := 13) (by omega) (by decide)).mp z)
        have n11 : ¬ nI (sc_o op pc) = 11 := fun z => tt (Or.inl ((nI_eq (b := 11) (by omega) (by decide)).mp z))
        have n12 : ¬ nI (sc_o op pc) = 12 := fun z => tt (Or.inr ((nI_eq (b := 12) (by omega) (by decide)).mp z))
        refine ⟨r', t', ou', aa', tn', lo', ce', la', ls', g1, g2, g3, g4, fun post hp => ?_, fun post hp => ?_⟩
        · refine br_f x1 (sc_xpos1 hc hpc (br_f (by decide) ⟨vq, nm_r eo (br_f n13 (br_f n11 (br_f n12 ⟨vq, ?_⟩)))⟩))
          rw [en]
          exact wx1 _ (nm_r (nI_1 pc) (nm_r (nI_1 k) (wx post hp)))
        · refine br_f y1 (br_t rfl (sc_yin1 hc hpc (br_f (by decide) ⟨vq, nm_r eo (br_f n13 (br_f n11 (br_f n12 ⟨vq, ?_⟩)))⟩)))
          rw [en]
          exact wy1 _ (nm_r (nI_1 k) (wy post hp))
end
