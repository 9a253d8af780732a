/-! the component: follow, judge, forgetRun -/
theorem sc_fo_z (k : Nat → Nat) : ∀ n, sc_fo 0 k n = 0 := by
  intro n
  induction n with
  | zero => rfl
  | succ n ih =>
    show sc_fo 0 k n ||| (if (0 : Nat).testBit n = true then k n else 0) = 0
    rw [ih, if_neg (by simp)]
    rfl
section
variable {c : Nat} {pf tt oo oc : Int32} {op ns ha fa pl lo ce la : Nat → Int32}
theorem sc_xfollow {W F : Nat → Nat} {f p h : Nat} {O : Nat → Nat} (K : sc_K c W F f ha fa pl) (hc : c ≤ 20) (hp : p < c) (hh : h < 7) (hO : op p = nI (O p)) (h14 : O p < 14) :
    ∃ (W' F' : Nat → Nat) (f' : Nat) (ha' fa' pl' : Nat → Int32), sc_K c W' F' f' ha' fa' pl' ∧ sc_S O ns c p h W W' F F' f f' pl pl' ∧
      ∀ post : SX → Prop, post (nI c, nI f', tt, oo, oc, op, ns, ha', fa', pl', lo, ce, la) → wpX_follow post (nI c, nI f, tt, oo, oc, op, ns, ha, fa, pl, lo, ce, la) (nI p) (nI h) := by
  have hp2 : p < 20 := by omega
  have vq : vp_in (nI p) 20 := vp_in_nI hp2 (by omega)
  have eo : op (nI p).toNatClampNeg = nI (O p) := by rw [nI_clamp (by omega)]; exact hO
  have en : ns (nI p).toNatClampNeg = ns p := by rw [nI_clamp (by omega)]
  have n2 := sc_nd2 (O p)
  have r2 := sc_rs2 (O p)
  have nr := sc_ndrs (O p) h14
  have ufl : ∀ v, v < 8 → ∀ y : Int32, y = nI v → upd fa (nI p).toNatClampNeg (fa (nI p).toNatClampNeg ||| y) = upd fa p (nI ((F p ||| sc_mx (W p)) ||| v)) := by
    intro v _ y e
    rw [nI_clamp (by omega), (K.1 p hp2).2.2.2, e, sc_or]
  by_cases a : h < sc_nd (O p)
  · refine ⟨W, sc_fs F p 1, f, ha, _, pl, sc_K_fl (p := p) K (by omega), ⟨Nat.le_refl f, fun _ _ => rfl, fun q g _ _ => ⟨Or.inl, fun s => s.elim id (fun s => absurd s.1 (by omega))⟩, by unfold sc_ct; rw [if_pos a]⟩, fun post hp' => ?_⟩
    exact ⟨vq, nm_r eo (sc_xgrowth h14 (nm_e (sc_xneed h14 (br_f (nI_ge a (by omega)) ⟨vq, vq, nm_r (ufl 1 (by omega) 1 rfl) hp'⟩))))⟩
  · obtain ⟨g, eg⟩ : ∃ g, g + 1 = h + sc_rs (O p) := ⟨h + sc_rs (O p) - 1, by omega⟩
    have ex := sc_gr_a h14 eg
    by_cases b : 7 < h + sc_rs (O p)
    · refine ⟨W, sc_fs F p 2, f, ha, _, pl, sc_K_fl (p := p) K (by omega), ⟨Nat.le_refl f, fun _ _ => rfl, fun q g _ _ => ⟨Or.inl, fun s => s.elim id (fun s => absurd s.2.1 (by omega))⟩, by unfold sc_ct; rw [if_neg a, if_pos b]⟩, fun post hp' => ?_⟩
      have n6 : ¬ nI g ≤ 6 := nI_ge (a := 6) (by omega) (by omega)
      exact ⟨vq, nm_r eo (sc_xgrowth h14 (nm_r ex (sc_xneed h14 (br_t (nI_le (by omega) (by omega)) (br_f n6 ⟨vq, vq, nm_r (ufl 2 (by omega) 2 rfl) hp'⟩)))))⟩
    · have l6 : nI g ≤ 6 := nI_le (b := 6) (by omega) (by decide)
      have hg : g < 7 := by omega
      have lead : ∀ {post : SX → Prop}, ((nI (O p) = 11 → wX_follow_66 post (nI p) (nI (O p)) (nI g) (nI c) (nI f) tt oo oc op ns ha fa pl lo ce la) ∧ (¬ nI (O p) = 11 → ((nI (O p) = 12 → wX_follow_66 post (nI p) (nI (O p)) (nI g) (nI c) (nI f) tt oo oc op ns ha fa pl lo ce la) ∧ (¬ nI (O p) = 12 → wX_follow_79 post (nI p) (nI (O p)) (nI g) (nI c) (nI f) tt oo oc op ns ha fa pl lo ce la)))) → wpX_follow post (nI c, nI f, tt, oo, oc, op, ns, ha, fa, pl, lo, ce, la) (nI p) (nI h) := by
        intro post H
        exact ⟨vq, nm_r eo (sc_xgrowth h14 (nm_r ex (sc_xneed h14 (br_t (nI_le (by omega) (by omega)) (br_t l6 H)))))⟩
      have ct : sc_ct O ns c p h = if sc_far O ns c p then 4 else 0 := by
        unfold sc_ct
        rw [if_neg a, if_neg b]
      have i11 : nI (O p) = 11 ↔ O p = 11 := nI_eq (b := 11) (by omega) (by decide)
      have i12 : nI (O p) = 12 ↔ O p = 12 := nI_eq (b := 12) (by omega) (by decide)
      have i13 : nI (O p) = 13 ↔ O p = 13 := nI_eq (b := 13) (by omega) (by decide)
      have e1 : nI p + 1 = nI (p + 1) := nI_1 p
      have in1 := sc_ins1 hc (q := p + 1) (by omega)
      by_cases o13 : O p = 13
      · refine ⟨W, F, f, ha, fa, pl, K, ⟨Nat.le_refl f, fun _ _ => rfl, fun q g _ _ => ⟨Or.inl, fun s => s.elim id (fun s => ?_)⟩, ?_⟩, fun post hp' => lead ?_⟩
        · obtain ⟨_, _, _, _, s | s⟩ := s <;> omega
        · rw [ct, if_neg (by intro s; rcases s with s | s <;> omega), sc_fs_0]
        · exact br_f (by rw [i11]; omega) (br_f (by rw [i12]; omega) (br_f (by rw [i12]; omega) (br_t (by rw [i13]; omega) hp')))
      · by_cases o12 : O p = 12
        · obtain ⟨W', F', f', ha', fa', pl', K', l, pre, bits, eF, wp⟩ := sc_xgo (tt := tt) (oo := oo) (oc := oc) (op := op) (ns := ns) (lo := lo) (ce := ce) (la := la) K hc hp2 hg (ns p)
          refine ⟨W', F', f', ha', fa', pl', K', ⟨l, pre, fun q g' hq hg' => ?_, ?_⟩, fun post hp' => lead ?_⟩
          · rw [bits q g' hq hg']
            constructor
            · intro s
              rcases s with s | ⟨s0, s1, s2⟩
              · exact Or.inl s
              · exact Or.inr ⟨by omega, by omega, by omega, s0, Or.inr ⟨Or.inr o12, s1⟩⟩
            · intro s
              rcases s with s | ⟨_, _, s2, s0, s | s⟩
              · exact Or.inl s
              · omega
              · exact Or.inr ⟨s0, s.2, by omega⟩
          · rw [eF, ct]
            by_cases i : 0 ≤ ns p ∧ ns p < nI c
            · rw [if_pos i, if_neg (by intro s; rcases s with s | s; omega; exact s.2 i)]
            · rw [if_neg i, if_pos (Or.inr ⟨Or.inr o12, i⟩)]
          · refine br_f (by rw [i11]; omega) (br_t (i12.mpr o12) ⟨vq, ?_⟩)
            rw [en]
            exact wp _ (br_t (i12.mpr o12) hp')
        · by_cases o11 : O p = 11
          · obtain ⟨W1, F1, f1, ha1, fa1, pl1, K1, l1, pre1, bits1, eF1, wp1⟩ := sc_xgo (tt := tt) (oo := oo) (oc := oc) (op := op) (ns := ns) (lo := lo) (ce := ce) (la := la) K hc hp2 hg (ns p)
            obtain ⟨W2, F2, f2, ha2, fa2, pl2, K2, l2, pre2, bits2, eF2, wp2⟩ := sc_xgo (tt := tt) (oo := oo) (oc := oc) (op := op) (ns := ns) (lo := lo) (ce := ce) (la := la) K1 hc hp2 hg (nI (p + 1))
            refine ⟨W2, F2, f2, ha2, fa2, pl2, K2, ⟨by omega, fun j hj => (pre2 j (by omega)).trans (pre1 j hj), fun q g' hq hg' => ?_, ?_⟩, fun post hp' => lead ?_⟩
            · rw [bits2 q g' hq hg', bits1 q g' hq hg']
              constructor
              · intro s
                rcases s with (s | ⟨s0, s1, s2⟩) | ⟨s0, s1, s2⟩
                · exact Or.inl s
                · exact Or.inr ⟨by omega, by omega, by omega, s0, Or.inr ⟨Or.inl o11, s1⟩⟩
                · rw [nI_eq (by omega) (by omega)] at s1
                  exact Or.inr ⟨by omega, by omega, by omega, s0, Or.inl ⟨by omega, s1.symm⟩⟩
              · intro s
                rcases s with s | ⟨_, _, s2, s0, s | s⟩
                · exact Or.inl (Or.inl s)
                · exact Or.inr ⟨s0, by rw [s.2], by omega⟩
                · exact Or.inl (Or.inr ⟨s0, s.2, by omega⟩)
            · rw [eF2, eF1, sc_fs_2, ct]
              by_cases i : 0 ≤ ns p ∧ ns p < nI c
              · by_cases j : p + 1 < c
                · rw [if_pos i, if_pos (in1.mpr j), if_neg (by intro s; rcases s with s | s; omega; exact s.2 i)]
                  rfl
                · rw [if_pos i, if_neg (fun z => j (in1.mp z)), if_pos (Or.inl ⟨by omega, j⟩)]
                  rfl
              · by_cases j : p + 1 < c
                · rw [if_neg i, if_pos (in1.mpr j), if_pos (Or.inr ⟨Or.inl o11, i⟩)]
                  rfl
                · rw [if_neg i, if_neg (fun z => j (in1.mp z)), if_pos (Or.inl ⟨by omega, j⟩)]
                  rfl
            · refine br_t (i11.mpr o11) ⟨vq, ?_⟩
              rw [en]
              refine wp1 _ (br_f (by rw [i12]; omega) (br_f (by rw [i13]; omega) ?_))
              rw [e1]
              exact wp2 _ hp'
          · obtain ⟨W', F', f', ha', fa', pl', K', l, pre, bits, eF, wp⟩ := sc_xgo (tt := tt) (oo := oo) (oc := oc) (op := op) (ns := ns) (lo := lo) (ce := ce) (la := la) K hc hp2 hg (nI (p + 1))
            refine ⟨W', F', f', ha', fa', pl', K', ⟨l, pre, fun q g' hq hg' => ?_, ?_⟩, fun post hp' => lead ?_⟩
            · rw [bits q g' hq hg']
              constructor
              · intro s
                rcases s with s | ⟨s0, s1, s2⟩
                · exact Or.inl s
                · rw [nI_eq (by omega) (by omega)] at s1
                  exact Or.inr ⟨by omega, by omega, by omega, s0, Or.inl ⟨by omega, s1.symm⟩⟩
              · intro s
                rcases s with s | ⟨_, _, s2, s0, s | s⟩
                · exact Or.inl s
                · exact Or.inr ⟨s0, by rw [s.2], by omega⟩
                · omega
            · rw [eF, ct]
              by_cases j : p + 1 < c
              · rw [if_pos (in1.mpr j), if_neg (by intro s; rcases s with s | s <;> omega)]
              · rw [if_neg (fun z => j (in1.mp z)), if_pos (Or.inl ⟨by omega, j⟩)]
            · refine br_f (by rw [i11]; omega) (br_f (by rw [i12]; omega) (br_f (by rw [i12]; omega) (br_f (by rw [i13]; omega) ?_)))
              rw [e1]
              exact wp _ hp'
theorem sc_xj41 {O : Nat → Nat} (hc : c ≤ 20) (hO : ∀ p, p < c → op p = nI (O p) ∧ O p < 14) : ∀ (d i f : Nat) (W T : Nat → Nat) (ha fa pl : Nat → Int32), i + d = 140 → sc_L O ns c W T i f ha fa pl →
    ∃ (W' : Nat → Nat) (f' : Nat) (ha' fa' pl' : Nat → Int32), (sc_Pic O ns c W' ∧ ∀ p, p < c → ha' p = nI (W' p) ∧ fa' p = nI (sc_F O ns c W' p)) ∧
      ∀ post : SX → Prop, post (nI c, nI f', tt, oo, oc, op, ns, ha', fa', pl', lo, ce, la) → wX_judge_41 post (d + 1) (nI i) (nI c) (nI f) tt oo oc op ns ha fa pl lo ce la := by
  intro d
  induction d with
  | zero =>
    intro i f W T ha fa pl hi L
    have l1 := L.2.1
    have l2 := sc_K_le L.1
    have e : i = f := by omega
    subst e
    exact ⟨W, i, ha, fa, pl, sc_L_e O ns c hc L, fun post hp => br_t (nI_le (Nat.le_refl i) (by omega)) hp⟩
  | succ d ih =>
    intro i f W T ha fa pl hi L
    have l1 := L.2.1
    have l2 := sc_K_le L.1
    by_cases e : i = f
    · subst e
      exact ⟨W, i, ha, fa, pl, sc_L_e O ns c hc L, fun post hp => br_t (nI_le (Nat.le_refl i) (by omega)) hp⟩
    · have lt : i < f := by omega
      obtain ⟨p, h, hp, hh, ep, w⟩ := L.1.2.2.1 i lt
      obtain ⟨W1, F1, f1, ha1, fa1, pl1, K1, S1, wp1⟩ := sc_xfollow (tt := tt) (oo := oo) (oc := oc) (op := op) (ns := ns) (lo := lo) (ce := ce) (la := la) (O := O) L.1 hc hp hh (hO p hp).1 (hO p hp).2
      have L1 := sc_L_s O ns c hc L lt hp hh ep w K1 S1
      obtain ⟨W2, f2, ha2, fa2, pl2, R2, wp2⟩ := ih (i + 1) f1 W1 (sc_st T p h) ha1 fa1 pl1 (by omega) L1
      refine ⟨W2, f2, ha2, fa2, pl2, R2, fun post hp' => ?_⟩
      have vi : vp_in (nI i) 140 := vp_in_nI (by omega) (by omega)
      have ec : pl (nI i).toNatClampNeg = nI (p * 7 + h) := by rw [nI_clamp (by omega)]; exact ep
      have eh : pl (nI i).toNatClampNeg - pl (nI i).toNatClampNeg / 7 * 7 = nI h := by
        rw [ec, show (7 : Int32) = nI 7 from rfl, pk_rem (by omega) (by omega) (by omega)]
        exact congrArg nI (by omega)
      have eq : pl (nI i).toNatClampNeg / 7 = nI p := by
        rw [ec, show (7 : Int32) = nI 7 from rfl, pk_div (by omega) (by omega) (by omega)]
        exact congrArg nI (by omega)
      refine br_f (nI_ge lt (by omega)) (br_f (nI_ge (b := 140) (by omega) (by decide)) ⟨vi, by decide, vi, by decide, ?_⟩)
      rw [eh, eq]
      exact wp1 _ (nm_r (nI_1 i) (wp2 post hp'))
theorem sc_xj2 {O : Nat → Nat} (h0 : 0 < c) (hc : c ≤ 20) (hO : ∀ p, p < c → op p = nI (O p) ∧ O p < 14) : ∀ (d i : Nat) (ha fa : Nat → Int32), i + d = 20 → (∀ p, p < i → ha p = 0 ∧ fa p = 0) →
    ∃ (W' : Nat → Nat) (f' : Nat) (ha' fa' pl' : Nat → Int32), (sc_Pic O ns c W' ∧ ∀ p, p < c → ha' p = nI (W' p) ∧ fa' p = nI (sc_F O ns c W' p)) ∧
      ∀ post : SX → Prop, post (nI c, nI f', tt, oo, oc, op, ns, ha', fa', pl', lo, ce, la) → wX_judge_2 post (nI c) pf tt oo oc (d + 1) (nI i) op ns ha fa pl lo ce la := by
  intro d
  induction d with
  | zero =>
    intro i ha fa hi z
    have K0 : sc_K c (fun _ => 0) (fun _ => 0) 0 ha fa pl := by
      refine ⟨fun p hp => ⟨(by decide : 0 < 128), (by decide : 0 < 8), (z p (by omega)).1, ?_⟩, (sc_ca_0 (fun _ _ => rfl) 20 (by omega)).symm, fun j hj => absurd hj (by omega), fun p h _ _ b => ?_⟩
      · rw [(z p (by omega)).2]
        exact (by decide +kernel : (0 : Int32) = nI (0 ||| sc_mx 0))
      · simp at b
    obtain ⟨W1, f1, ha1, fa1, pl1, K1, l1, pre1, bits1, wp1⟩ := sc_xcome (tt := tt) (oo := oo) (oc := oc) (op := op) (ns := ns) (lo := lo) (ce := ce) (la := la) K0 hc h0 (g := 0) (by omega)
    have L1 : sc_L O ns c W1 (fun _ => 0) 0 f1 ha1 fa1 pl1 := by
      refine ⟨sc_K_F K1 (fun p hp => (sc_fo_z _ 7).symm), by omega, fun _ _ => (by decide : 0 < 128), (bits1 0 0 (by omega) (by omega)).mpr (Or.inr ⟨rfl, rfl⟩), fun p h hp hh b => ?_, fun p h hp hh => ⟨fun b => by simp at b, fun ⟨j, hj, _⟩ => absurd hj (by omega)⟩, fun p h q g _ _ b => by simp at b⟩
      rcases (bits1 p h hp hh).mp b with s | ⟨s1, s2⟩
      · simp at s
      · rw [s1, s2]
        exact sc_R0 O ns c
    obtain ⟨W2, f2, ha2, fa2, pl2, R2, wp2⟩ := sc_xj41 (tt := tt) (oo := oo) (oc := oc) (lo := lo) (ce := ce) (la := la) hc hO 140 0 f1 W1 (fun _ => 0) ha1 fa1 pl1 (by omega) L1
    refine ⟨W2, f2, ha2, fa2, pl2, R2, fun post hp => br_t (nI_le (a := 20) (by omega) (by omega)) ?_⟩
    exact wp1 _ ⟨_, wp2 post hp⟩
  | succ d ih =>
    intro i ha fa hi z
    have vi : vp_in (nI i) 20 := vp_in_nI (by omega) (by omega)
    obtain ⟨W2, f2, ha2, fa2, pl2, R2, wp2⟩ := ih (i + 1) (upd ha i 0) (upd fa i 0) (by omega) (by
      intro p hp
      by_cases e : p = i
      · rw [e, pk_us, pk_us]; exact ⟨rfl, rfl⟩
      · rw [pk_un e, pk_un e]; exact z p (by omega))
    refine ⟨W2, f2, ha2, fa2, pl2, R2, fun post hp => br_f (nI_ge (b := 20) (by omega) (by decide)) ⟨vi, nm_r ?_ ⟨vi, nm_r ?_ (nm_r (nI_1 i) (wp2 post hp))⟩⟩⟩
    · rw [nI_clamp (by omega)]
    · rw [nI_clamp (by omega)]
theorem sc_xjudge (h0 : 0 < c) (hc : c ≤ 20) (I : sc_I c op ns) :
    ∃ (f' : Nat) (ha' fa' pl' : Nat → Int32), sc_T c op ns ha' fa' ∧
      ∀ post : SX → Prop, post (nI c, nI f', tt, oo, oc, op, ns, ha', fa', pl', lo, ce, la) → wpX_judge post (nI c, pf, tt, oo, oc, op, ns, ha, fa, pl, lo, ce, la) := by
  obtain ⟨W, f', ha', fa', pl', R, wp⟩ := sc_xj2 (pf := pf) (tt := tt) (oo := oo) (oc := oc) (ns := ns) (pl := pl) (lo := lo) (ce := ce) (la := la) (O := sc_o op) h0 hc (fun p hp => ⟨(I p hp).1, (I p hp).2.1⟩) 20 0 ha fa (by omega) (fun p hp => absurd hp (by omega))
  exact ⟨f', ha', fa', pl', ⟨W, R⟩, fun post hp => ⟨_, wp post hp⟩⟩
theorem sc_xfg (cc : Int32) (post : SX → Prop) : ∀ (d i : Nat) (lo lo' : Nat → Int32), i + d = 4 → (∀ j, lo' j = if i ≤ j ∧ j < 4 then 0 else lo j) → post (cc, pf, tt, oo, oc, op, ns, ha, fa, pl, lo', ce, la) →
    wX_forgetRun_17 post cc pf tt oo oc (d + 1) (nI i) op ns ha fa pl lo ce la := by
  intro d
  induction d with
  | zero =>
    intro i lo lo' hi e hp
    have : lo' = lo := by
      funext j
      rw [e j, if_neg (by omega)]
    rw [this] at hp
    exact br_t (nI_le (a := 4) (by omega) (by omega)) hp
  | succ d ih =>
    intro i lo lo' hi e hp
    have vi : vp_in (nI i) 4 := vp_in_nI (by omega) (by omega)
    have r := ih (i + 1) (upd lo i 0) lo' (by omega) (by
      intro j
      rw [e j]
      by_cases z : j = i
      · rw [z, pk_us, if_pos (by omega), if_neg (by omega)]
      · rw [pk_un z]
        by_cases y : i ≤ j ∧ j < 4
        · rw [if_pos y, if_pos (by omega)]
        · rw [if_neg y, if_neg (by omega)]) hp
    refine br_f (nI_ge (b := 4) (by omega) (by decide)) ⟨vi, nm_r ?_ (nm_r (nI_1 i) r)⟩
    rw [nI_clamp (by omega)]
/-- the locals when they are forgotten -/
def sc_l0 (lo : Nat → Int32) : Nat → Int32 := fun j => if j < 4 then 0 else lo j
theorem sc_xforget (cc : Int32) {post : SX → Prop} (h : post (cc, pf, 0, 0, 0, op, ns, ha, fa, pl, sc_l0 lo, ce, la)) : wpX_forgetRun post (cc, pf, tt, oo, oc, op, ns, ha, fa, pl, lo, ce, la) := by
  refine ⟨5, sc_xfg cc post 4 0 lo (sc_l0 lo) rfl (fun j => ?_) h⟩
  unfold sc_l0
  by_cases y : j < 4
  · rw [if_pos y, if_pos ⟨by omega, y⟩]
  · rw [if_neg y, if_neg (by omega)]
end
