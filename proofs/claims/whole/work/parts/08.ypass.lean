/-! the reference: one place, one pass, all passes -/
section
variable {c : Nat} {oc aa tn tt oo : Int32} {op ns co ce ly ls : Nat → Int32}
theorem sc_ystep {O : Nat → Nat} {K : Nat} {W : Nat → Nat} {b p h : Nat} (V : sc_V O ns c K W b (p * 7 + h) co) (hc : c ≤ 20) (hp : p < c) (hh : h < 7) (hO : op p = nI (O p)) (h14 : O p < 14) :
    ∃ (W' : Nat → Nat) (b' : Nat) (co' : Nat → Int32), sc_V O ns c K W' b' (p * 7 + h + 1) co' ∧
      ∀ (post : SY → Prop) (J40 : Int32 → Int32 → Int32 → Int32 → Int32 → Int32 → Int32 → Int32 → (Nat → Int32) → (Nat → Int32) → (Nat → Int32) → (Nat → Int32) → (Nat → Int32) → (Nat → Int32) → Prop) (x2 : Int32) (n : Nat),
        wY_follow_55 post J40 x2 n (nI b') (nI (p * 7 + h + 1)) (nI c) oc aa tn tt oo op ns co' ce ly ls →
        wY_follow_55 post J40 x2 (n + 1) (nI b) (nI (p * 7 + h)) (nI c) oc aa tn tt oo op ns co ce ly ls := by
  have hp2 : p < 20 := by omega
  have Y := V.1
  have hb := V.2.1
  have kq := Y p hp2
  have vq : vp_in (nI p) 20 := vp_in_nI hp2 (by omega)
  have eo : op (nI p).toNatClampNeg = nI (O p) := by rw [nI_clamp (by omega)]; exact hO
  have ec : co (nI p).toNatClampNeg = nI (W p) := by rw [nI_clamp (by omega)]; exact kq.2
  have t1 := sc_t1 (W p) kq.1 h hh
  have e7 : (7 : Int32) * nI c = nI (7 * c) := pk_mul 7 c
  have nle : ¬ (7 : Int32) * nI c ≤ nI (p * 7 + h) := by
    rw [e7]
    exact nI_ge (by omega) (by omega)
  have ep : nI (p * 7 + h) / 7 = nI p := by
    rw [show (7 : Int32) = nI 7 from rfl, pk_div (by omega) (by omega) (by omega)]
    exact congrArg nI (by omega)
  have eh : nI (p * 7 + h) - nI (p * 7 + h) / 7 * 7 = nI h := by
    rw [show (7 : Int32) = nI 7 from rfl, pk_rem (by omega) (by omega) (by omega)]
    exact congrArg nI (by omega)
  by_cases z : (W p).testBit h = true
  · have tb : (co (nI p).toNatClampNeg >>> (nI h &&& 31)) &&& 1 = 1 := by rw [ec]; exact t1.mpr z
    by_cases can : sc_nd (O p) ≤ h ∧ h + sc_rs (O p) ≤ 7
    · have nr := sc_ndrs (O p) h14
      obtain ⟨g, eg⟩ : ∃ g, g + 1 = h + sc_rs (O p) := ⟨h + sc_rs (O p) - 1, by omega⟩
      have ex := sc_gr_a h14 eg
      have hg : g < 7 := by omega
      have e1 : nI p + 1 = nI (p + 1) := nI_1 p
      by_cases o12 : O p < 12
      · obtain ⟨W1, co1, d1, Y1, Q1, wp1⟩ := sc_yreach (oc := oc) (aa := aa) (tn := tn) (tt := tt) (oo := oo) (op := op) (ns := ns) (ce := ce) (ly := ly) (ls := ls) Y hc hg (nI (p + 1))
        have h1 := Q1.1
        by_cases o11 : O p = 11
        · obtain ⟨W2, co2, d2, Y2, Q2, wp2⟩ := sc_yreach (oc := oc) (aa := aa) (tn := tn) (tt := tt) (oo := oo) (op := op) (ns := ns) (ce := ce) (ly := ly) (ls := ls) Y1 hc hg (ns p)
          have h2 := Q2.1
          have Q : sc_Q W W2 (if d1 = 0 then d2 else 1) (fun q g => sc_E O ns c p h q g) := by
            refine sc_Q_c Q1 Q2 (fun q g' hq hg' => ⟨fun s => ?_, fun s => ?_⟩)
            · obtain ⟨_, _, s2, s0, s | s⟩ := s
              · exact Or.inl ⟨s0, by rw [s.2], by omega⟩
              · exact Or.inr ⟨s0, s.2, by omega⟩
            · rcases s with ⟨s0, s1, s2⟩ | ⟨s0, s1, s2⟩
              · rw [nI_eq (by omega) (by omega)] at s1
                exact ⟨by omega, by omega, by omega, s0, Or.inl ⟨by omega, s1.symm⟩⟩
              · exact ⟨by omega, by omega, by omega, s0, Or.inr ⟨Or.inl o11, s1⟩⟩
          refine ⟨W2, _, co2, sc_V_s O ns c hc V hp hh z Q Y2, fun post J40 x2 n H => ?_⟩
          refine br_f nle ⟨by decide, nm_r ep ⟨by decide, nm_r eh ⟨vq, br_t tb (sc_ycan1 hp2 hO h14 hh can.1 can.2 (br_f (by decide) ⟨vq, ?_⟩))⟩⟩⟩
          rw [eo]
          refine sc_yrise h14 (nm_r ex ⟨vq, br_f (nI_ge (b := 12) o12 (by decide)) ?_⟩)
          rw [e1]
          refine wp1 _ ?_
          have F := sc_y151a (post := post) (J40 := J40) (J55 := wY_follow_55 post J40 x2 n) (x2 := x2) hb h1 h2 hp2 hO (Or.inl o11) wp2 H
          rcases sc_d01 h1 with rfl | rfl
          · exact br_t rfl F
          · exact br_f (by decide) F
        · have Q : sc_Q W W1 d1 (fun q g => sc_E O ns c p h q g) := by
            refine ⟨Q1.1, Q1.2.1, Q1.2.2.1, fun q g' hq hg' => ?_⟩
            rw [Q1.2.2.2 q g' hq hg']
            constructor
            · intro s
              rcases s with s | ⟨s0, s1, s2⟩
              · exact Or.inl s
              · rw [nI_eq (by omega) (by omega)] at s1
                exact Or.inr ⟨by omega, by omega, by omega, s0, Or.inl ⟨by omega, s1.symm⟩⟩
            · intro s
              rcases s with s | ⟨_, _, s2, s0, s | s⟩
              · exact Or.inl s
              · exact Or.inr ⟨s0, by rw [s.2], by omega⟩
              · omega
          refine ⟨W1, _, co1, sc_V_s O ns c hc V hp hh z Q Y1, fun post J40 x2 n H => ?_⟩
          refine br_f nle ⟨by decide, nm_r ep ⟨by decide, nm_r eh ⟨vq, br_t tb (sc_ycan1 hp2 hO h14 hh can.1 can.2 (br_f (by decide) ⟨vq, ?_⟩))⟩⟩⟩
          rw [eo]
          refine sc_yrise h14 (nm_r ex ⟨vq, br_f (nI_ge (b := 12) o12 (by decide)) ?_⟩)
          rw [e1]
          refine wp1 _ ?_
          have F := sc_y151b (post := post) (J40 := J40) (J55 := wY_follow_55 post J40 x2 n) (x2 := x2) (g := g) hb h1 hp2 hO h14 (by omega) H
          rcases sc_d01 h1 with rfl | rfl
          · exact br_t rfl F
          · exact br_f (by decide) F
      · by_cases o13 : O p = 13
        · have Q : sc_Q W W 0 (fun q g => sc_E O ns c p h q g) := by
            refine sc_Q_0 (fun q g' _ _ s => ?_)
            obtain ⟨_, _, _, _, s | s⟩ := s <;> omega
          refine ⟨W, _, co, sc_V_s O ns c hc V hp hh z Q Y, fun post J40 x2 n H => ?_⟩
          refine br_f nle ⟨by decide, nm_r ep ⟨by decide, nm_r eh ⟨vq, br_t tb (sc_ycan1 hp2 hO h14 hh can.1 can.2 (br_f (by decide) ⟨vq, ?_⟩))⟩⟩⟩
          rw [eo]
          refine sc_yrise h14 (nm_r ex ⟨vq, br_t (nI_le (a := 12) (by omega) (by omega)) ?_⟩)
          exact sc_y151b (post := post) (J40 := J40) (J55 := wY_follow_55 post J40 x2 n) (x2 := x2) (g := g) (d1 := 0) hb (by omega) hp2 hO h14 (by omega) H
        · have o12' : O p = 12 := by omega
          obtain ⟨W2, co2, d2, Y2, Q2, wp2⟩ := sc_yreach (oc := oc) (aa := aa) (tn := tn) (tt := tt) (oo := oo) (op := op) (ns := ns) (ce := ce) (ly := ly) (ls := ls) Y hc hg (ns p)
          have h2 := Q2.1
          have Q : sc_Q W W2 (if (0 : Nat) = 0 then d2 else 1) (fun q g => sc_E O ns c p h q g) := by
            rw [if_pos rfl]
            refine ⟨Q2.1, Q2.2.1, Q2.2.2.1, fun q g' hq hg' => ?_⟩
            rw [Q2.2.2.2 q g' hq hg']
            constructor
            · intro s
              rcases s with s | ⟨s0, s1, s2⟩
              · exact Or.inl s
              · exact Or.inr ⟨by omega, by omega, by omega, s0, Or.inr ⟨Or.inr o12', s1⟩⟩
            · intro s
              rcases s with s | ⟨_, _, s2, s0, s | s⟩
              · exact Or.inl s
              · omega
              · exact Or.inr ⟨s0, s.2, by omega⟩
          refine ⟨W2, _, co2, sc_V_s O ns c hc V hp hh z Q Y2, fun post J40 x2 n H => ?_⟩
          refine br_f nle ⟨by decide, nm_r ep ⟨by decide, nm_r eh ⟨vq, br_t tb (sc_ycan1 hp2 hO h14 hh can.1 can.2 (br_f (by decide) ⟨vq, ?_⟩))⟩⟩⟩
          rw [eo]
          refine sc_yrise h14 (nm_r ex ⟨vq, br_t (nI_le (a := 12) (by omega) (by omega)) ?_⟩)
          exact sc_y151a (post := post) (J40 := J40) (J55 := wY_follow_55 post J40 x2 n) (x2 := x2) (d1 := 0) hb (by omega) h2 hp2 hO (Or.inr o12') wp2 H
    · refine ⟨W, b, co, sc_V_n O ns c hc V hh (fun q g _ s => can ⟨s.1, s.2.1⟩), fun post J40 x2 n H => ?_⟩
      exact br_f nle ⟨by decide, nm_r ep ⟨by decide, nm_r eh ⟨vq, br_t tb (sc_ycan0 hp2 hO h14 hh can (br_t rfl (nm_r (nI_1 _) H)))⟩⟩⟩
  · have tb : ¬ (co (nI p).toNatClampNeg >>> (nI h &&& 31)) &&& 1 = 1 := by rw [ec, t1]; exact z
    refine ⟨W, b, co, sc_V_n O ns c hc V hh (fun q g s _ => z s), fun post J40 x2 n H => ?_⟩
    exact br_f nle ⟨by decide, nm_r ep ⟨by decide, nm_r eh ⟨vq, br_f tb (nm_r (nI_1 _) H)⟩⟩⟩
theorem sc_y55 {O : Nat → Nat} {K : Nat} (hc : c ≤ 20) (hO : ∀ p, p < c → op p = nI (O p) ∧ O p < 14) : ∀ (d e : Nat) (W : Nat → Nat) (b : Nat) (co : Nat → Int32), e + d = 7 * c → sc_V O ns c K W b e co →
    ∃ (W' : Nat → Nat) (b' : Nat) (co' : Nat → Int32), sc_V O ns c K W' b' (7 * c) co' ∧
      ∀ (post : SY → Prop) (J40 : Int32 → Int32 → Int32 → Int32 → Int32 → Int32 → Int32 → Int32 → (Nat → Int32) → (Nat → Int32) → (Nat → Int32) → (Nat → Int32) → (Nat → Int32) → (Nat → Int32) → Prop) (x2 : Int32),
        J40 (nI b') (x2 + 1) (nI c) oc aa tn tt oo op ns co' ce ly ls →
        wY_follow_55 post J40 x2 (d + 1) (nI b) (nI e) (nI c) oc aa tn tt oo op ns co ce ly ls := by
  intro d
  induction d with
  | zero =>
    intro e W b co he V
    have ee : e = 7 * c := by omega
    subst ee
    refine ⟨W, b, co, V, fun post J40 x2 H => br_t ?_ (nm_e H)⟩
    rw [show (7 : Int32) * nI c = nI (7 * c) from pk_mul 7 c]
    exact nI_le (Nat.le_refl _) (by omega)
  | succ d ih =>
    intro e W b co he V
    obtain ⟨p, h, hh, ee⟩ : ∃ p h, h < 7 ∧ e = p * 7 + h := ⟨e / 7, e % 7, by omega, by omega⟩
    subst ee
    have hp : p < c := by omega
    obtain ⟨W1, b1, co1, V1, wp1⟩ := sc_ystep (oc := oc) (aa := aa) (tn := tn) (tt := tt) (oo := oo) (ce := ce) (ly := ly) (ls := ls) V hc hp hh (hO p hp).1 (hO p hp).2
    obtain ⟨W2, b2, co2, V2, wp2⟩ := ih (p * 7 + h + 1) W1 b1 co1 (by omega) V1
    exact ⟨W2, b2, co2, V2, fun post J40 x2 H => wp1 post J40 x2 (d + 1) (wp2 post J40 x2 H)⟩
theorem sc_y40 {O : Nat → Nat} (hc : c ≤ 20) (hO : ∀ p, p < c → op p = nI (O p) ∧ O p < 14) : ∀ (d k : Nat) (W : Nat → Nat) (co : Nat → Int32), k + d = 141 → sc_V O ns c k W 0 0 co →
    ∃ (W' : Nat → Nat) (co' : Nat → Int32), (sc_Y W' co' ∧ sc_Pic O ns c W') ∧
      ∀ post : SY → Prop, post (nI c, oc, aa, tn, tt, oo, op, ns, co', ce, ly, ls) → wY_follow_40 post (d + 2) 1 (nI k) (nI c) oc aa tn tt oo op ns co ce ly ls := by
  intro d
  induction d with
  | zero =>
    intro k W co hk V
    have := sc_V_le O ns c V
    omega
  | succ d ih =>
    intro k W co hk V
    obtain ⟨W1, b1, co1, V1, wp1⟩ := sc_y55 (oc := oc) (aa := aa) (tn := tn) (tt := tt) (oo := oo) (ce := ce) (ly := ly) (ls := ls) hc hO (7 * c) 0 W 0 co (by omega) V
    have n1 : ¬ (141 : Int32) ≤ nI k := nI_ge (b := 141) (by omega) (by decide)
    rcases sc_d01 V1.2.1 with rfl | rfl
    · refine ⟨W1, co1, sc_V_e O ns c hc V1, fun post hp => br_f n1 (br_f (by decide) ⟨_, wp1 post _ _ ?_⟩)⟩
      exact br_c (fun _ => hp) (fun _ => br_t rfl hp)
    · obtain ⟨W2, co2, R2, wp2⟩ := ih (k + 1) W1 co1 (by omega) (sc_V_p O ns c V1)
      refine ⟨W2, co2, R2, fun post hp => br_f n1 (br_f (by decide) ⟨_, wp1 post _ _ ?_⟩)⟩
      rw [nI_1 k]
      exact wp2 post hp
theorem sc_b1 : ∀ h, h < 7 → (1 : Nat).testBit h = true → h = 0 := by decide
theorem sc_y2 {O : Nat → Nat} (hc : c ≤ 20) (hO : ∀ p, p < c → op p = nI (O p) ∧ O p < 14) : ∀ (d i : Nat) (co : Nat → Int32), i + d = 20 → (∀ p, p < i → co p = nI (if p = 0 ∧ 0 < c then 1 else 0)) →
    ∃ (W' : Nat → Nat) (co' : Nat → Int32), (sc_Y W' co' ∧ sc_Pic O ns c W') ∧
      ∀ post : SY → Prop, post (nI c, oc, aa, tn, tt, oo, op, ns, co', ce, ly, ls) → wY_follow_2 post (nI c) oc aa tn tt oo (d + 1) (nI i) op ns co ce ly ls := by
  intro d
  induction d with
  | zero =>
    intro i co hi z
    have V : sc_V O ns c 0 (fun p => if p = 0 ∧ 0 < c then 1 else 0) 0 0 co := by
      refine ⟨fun p hp => ⟨?_, z p (by omega)⟩, by omega, fun h0 => ?_, fun p h hp hh b => ?_, fun _ p h q g l => absurd l (by omega), Nat.zero_le _⟩
      · show (if p = 0 ∧ 0 < c then 1 else 0) < 128
        split <;> omega
      · show (if (0 : Nat) = 0 ∧ 0 < c then 1 else 0).testBit 0 = true
        rw [if_pos ⟨rfl, h0⟩]
        rfl
      · have b' : (if p = 0 ∧ 0 < c then 1 else 0).testBit h = true := b
        by_cases y : p = 0 ∧ 0 < c
        · rw [if_pos y] at b'
          rw [y.1, sc_b1 h hh b']
          exact sc_R0 O ns c
        · rw [if_neg y] at b'
          simp at b'
    obtain ⟨W', co', R, wp⟩ := sc_y40 (oc := oc) (aa := aa) (tn := tn) (tt := tt) (oo := oo) (ce := ce) (ly := ly) (ls := ls) hc hO 141 0 _ co (by omega) V
    exact ⟨W', co', R, fun post hp => br_t (nI_le (a := 20) (by omega) (by omega)) ⟨_, wp post hp⟩⟩
  | succ d ih =>
    intro i co hi z
    have vi : vp_in (nI i) 20 := vp_in_nI (by omega) (by omega)
    have n1 : ¬ (20 : Int32) ≤ nI i := nI_ge (b := 20) (by omega) (by decide)
    have ec : (nI i).toNatClampNeg = i := nI_clamp (by omega)
    obtain ⟨W', co', R, wp⟩ := ih (i + 1) (upd co i (nI (if i = 0 ∧ 0 < c then 1 else 0))) (by omega) (by
      intro p hp
      by_cases e : p = i
      · rw [e, pk_us]
      · rw [pk_un e]; exact z p (by omega))
    refine ⟨W', co', R, fun post hp => br_f n1 ?_⟩
    have H := wp post hp
    by_cases i0 : i = 0
    · have e0 : nI i = 0 := by rw [i0]; rfl
      refine br_t e0 ?_
      by_cases c0 : 0 < c
      · rw [if_pos ⟨i0, c0⟩] at H
        exact br_f (nI_nle c0 (by omega)) ⟨vi, nm_r (by rw [ec]; rfl) (nm_r (nI_1 i) H)⟩
      · rw [if_neg (fun y => c0 y.2)] at H
        have ez : nI c ≤ 0 := nI_le (b := 0) (by omega) (by decide)
        exact br_t ez ⟨vi, nm_r (by rw [ec]; rfl) (nm_r (nI_1 i) H)⟩
    · rw [if_neg (fun y => i0 y.1)] at H
      exact br_f (nI_ne0 (by omega) (by omega)) ⟨vi, nm_r (by rw [ec]; rfl) (nm_r (nI_1 i) H)⟩
theorem sc_yfollow (hc : c ≤ 20) (I : sc_I c op ns) :
    ∃ (W' : Nat → Nat) (co' : Nat → Int32), (sc_Y W' co' ∧ sc_Pic (sc_o op) ns c W') ∧
      ∀ post : SY → Prop, post (nI c, oc, aa, tn, tt, oo, op, ns, co', ce, ly, ls) → wpY_follow post (nI c, oc, aa, tn, tt, oo, op, ns, co, ce, ly, ls) := by
  obtain ⟨W', co', R, wp⟩ := sc_y2 (oc := oc) (aa := aa) (tn := tn) (tt := tt) (oo := oo) (ns := ns) (ce := ce) (ly := ly) (ls := ls) (O := sc_o op) hc (fun p hp => ⟨(I p hp).1, (I p hp).2.1⟩) 20 0 co (by omega) (fun p hp => absurd hp (by omega))
  exact ⟨W', co', R, fun post hp => ⟨_, wp post hp⟩⟩
end
