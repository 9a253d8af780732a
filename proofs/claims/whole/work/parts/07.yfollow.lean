/-! the reference's methods that judge a program, each with a general post -/
theorem sc_gr_1 : ∀ o, o < 14 → (1 ≤ sc_gr o ↔ sc_rs o = 2) := by decide +kernel
theorem sc_d01 {d : Nat} (h : d ≤ 1) : d = 0 ∨ d = 1 := by omega
section
variable {c : Nat} {oc aa tn tt oo : Int32} {op ns co ce ly ls : Nat → Int32}
theorem sc_yin1 {post : Int32 → Prop} {q : Nat} (hc : c ≤ 20) (hq : q < c) (h : post 1) : wpY_inside post (nI c, oc, aa, tn, tt, oo, op, ns, co, ce, ly, ls) (nI q) :=
  br_f (nI_pos (by omega)) (br_f (nI_ge hq (by omega)) h)
theorem sc_yin0 {post : Int32 → Prop} {x : Int32} (hx : ¬ (0 ≤ x ∧ x < nI c)) (h : post 0) : wpY_inside post (nI c, oc, aa, tn, tt, oo, op, ns, co, ce, ly, ls) x := by
  by_cases a : x < 0
  · exact br_t a h
  · exact br_f a (br_t (Decidable.byContradiction fun n => hx ⟨Int32.not_lt.mp a, Int32.not_le.mp n⟩) h)
theorem sc_yrise {post : Int32 → Prop} {o : Nat} (ho : o < 14) (h : post (sc_gr o)) : wpY_rise post (nI c, oc, aa, tn, tt, oo, op, ns, co, ce, ly, ls) (nI o) := by
  rcases sc_14 ho with rfl | rfl | rfl | rfl | rfl | rfl | rfl | rfl | rfl | rfl | rfl | rfl | rfl | rfl <;>
    (unfold wpY_rise; dsimp only; repeat (first | exact h | refine br_t (by decide) ?_ | refine br_f (by decide) ?_))
theorem sc_yneed {post : Int32 → Prop} {o : Nat} (ho : o < 14) (h : post (nI (sc_nd o))) : wpY_need post (nI c, oc, aa, tn, tt, oo, op, ns, co, ce, ly, ls) (nI o) := by
  rcases sc_14 ho with rfl | rfl | rfl | rfl | rfl | rfl | rfl | rfl | rfl | rfl | rfl | rfl | rfl | rfl <;>
    (unfold wpY_need; dsimp only; unfold wY_need_19; repeat (first | exact h | refine br_t (by decide) ?_ | refine br_f (by decide) ?_))
theorem sc_ycan1 {post : Int32 → Prop} {p h o : Nat} (hp : p < 20) (eo : op p = nI o) (ho : o < 14) (hh : h < 7) (a : sc_nd o ≤ h) (b : h + sc_rs o ≤ 7) (H : post 1) : wpY_can post (nI c, oc, aa, tn, tt, oo, op, ns, co, ce, ly, ls) (nI p) (nI h) := by
  have vq : vp_in (nI p) 20 := vp_in_nI hp (by omega)
  have e : op (nI p).toNatClampNeg = nI o := by rw [nI_clamp (by omega)]; exact eo
  refine ⟨vq, ?_⟩
  rw [e]
  refine sc_yneed ho (br_f (nI_nlt a (by omega)) ?_)
  by_cases z : h < 6
  · exact br_t (nI_lt (b := 6) z (by decide)) H
  · refine br_f (nI_nlt (b := 6) (by omega) (by omega)) ⟨vq, sc_yrise ho (br_f ?_ H)⟩
    rw [sc_gr_1 o ho]
    omega
theorem sc_ycan0 {post : Int32 → Prop} {p h o : Nat} (hp : p < 20) (eo : op p = nI o) (ho : o < 14) (hh : h < 7) (a : ¬ (sc_nd o ≤ h ∧ h + sc_rs o ≤ 7)) (H : post 0) : wpY_can post (nI c, oc, aa, tn, tt, oo, op, ns, co, ce, ly, ls) (nI p) (nI h) := by
  have vq : vp_in (nI p) 20 := vp_in_nI hp (by omega)
  have e : op (nI p).toNatClampNeg = nI o := by rw [nI_clamp (by omega)]; exact eo
  have n2 := sc_nd2 o
  have r2 := sc_rs2 o
  refine ⟨vq, ?_⟩
  rw [e]
  refine sc_yneed ho ?_
  by_cases z : h < sc_nd o
  · exact br_t (nI_lt z (by omega)) H
  · refine br_f (nI_nlt (by omega) (by omega)) (br_f (nI_nlt (b := 6) (by omega) (by omega)) ⟨vq, sc_yrise ho (br_t ?_ H)⟩)
    rw [sc_gr_1 o ho]
    omega
theorem sc_yreach {W : Nat → Nat} {g : Nat} (Y : sc_Y W co) (hc : c ≤ 20) (hg : g < 7) (x : Int32) :
    ∃ (W' : Nat → Nat) (co' : Nat → Int32) (d : Nat), sc_Y W' co' ∧ sc_Q W W' d (fun q h => q < c ∧ x = nI q ∧ h = g) ∧
      ∀ post : Int32 → SY → Prop, post (nI d) (nI c, oc, aa, tn, tt, oo, op, ns, co', ce, ly, ls) → wpY_reach post (nI c, oc, aa, tn, tt, oo, op, ns, co, ce, ly, ls) x (nI g) := by
  by_cases i : 0 ≤ x ∧ x < nI c
  · obtain ⟨q, hq, rfl⟩ := (sc_ins c hc x).mp i
    have hq2 : q < 20 := by omega
    have kq := Y q hq2
    have vq : vp_in (nI q) 20 := vp_in_nI hq2 (by omega)
    have eq : co (nI q).toNatClampNeg = nI (W q) := by rw [nI_clamp (by omega)]; exact kq.2
    have t1 := sc_t1 (W q) kq.1 g hg
    by_cases z : (W q).testBit g = true
    · refine ⟨W, co, 0, Y, sc_Q_0 (fun q' g' _ _ s => ?_), fun post hp => ?_⟩
      · have s1 := s.2.1
        rw [nI_eq (by omega) (by omega)] at s1
        rw [← s1, s.2.2]
        exact z
      · unfold wpY_reach
        dsimp only
        exact sc_yin1 hc hq (br_f (by decide) ⟨vq, br_t (by rw [eq]; exact t1.mpr z) hp⟩)
    · refine ⟨sc_st W q g, _, 1, sc_Y_new Y hq2 hg, sc_Q_1 hq2 hg z (fun q' g' hq' _ => ⟨fun s => ?_, fun s => ⟨by omega, by rw [s.1], s.2⟩⟩), fun post hp => ?_⟩
      · have s1 := s.2.1
        rw [nI_eq (by omega) (by omega)] at s1
        exact ⟨s1.symm, s.2.2⟩
      · have u : upd co (nI q).toNatClampNeg (co (nI q).toNatClampNeg ||| ((1 : Int32) <<< (nI g &&& 31))) = upd co q (nI (W q ||| 2 ^ g)) := by
          rw [eq, sc_t3 g hg, sc_or, nI_clamp (by omega)]
        unfold wpY_reach
        dsimp only
        exact sc_yin1 hc hq (br_f (by decide) ⟨vq, br_f (by rw [eq, t1]; exact z) ⟨vq, vq, nm_r u hp⟩⟩)
  · refine ⟨W, co, 0, Y, sc_Q_0 (fun q' g' _ _ s => absurd ((sc_ins c hc x).mpr ⟨q', s.1, s.2.1⟩) i), fun post hp => ?_⟩
    unfold wpY_reach
    dsimp only
    exact sc_yin0 i (br_t rfl hp)
theorem sc_y198 {post : SY → Prop} {J40 J55 : Int32 → Int32 → Int32 → Int32 → Int32 → Int32 → Int32 → Int32 → (Nat → Int32) → (Nat → Int32) → (Nat → Int32) → (Nat → Int32) → (Nat → Int32) → (Nat → Int32) → Prop}
    {b d1 d2 e : Nat} {x2 : Int32} (hb : b ≤ 1) (h1 : d1 ≤ 1) (h2 : d2 ≤ 1)
    (H : J55 (nI (if b = 0 then if d1 = 0 then d2 else 1 else 1)) (nI (e + 1)) (nI c) oc aa tn tt oo op ns co ce ly ls) :
    wY_follow_198 post J40 J55 (nI b) x2 (nI e) (nI d1) (nI d2) (nI c) oc aa tn tt oo op ns co ce ly ls := by
  rcases sc_d01 hb with rfl | rfl
  · rcases sc_d01 h1 with rfl | rfl
    · rcases sc_d01 h2 with rfl | rfl
      · exact br_t rfl (br_t rfl (br_t rfl (nm_r (nI_1 e) H)))
      · exact br_t rfl (br_t rfl (br_f (by decide) (nm_r (nI_1 e) H)))
    · exact br_t rfl (br_f (by decide) (nm_r (nI_1 e) H))
  · exact br_f (by decide) (nm_r (nI_1 e) H)
theorem sc_y151a {post : SY → Prop} {J40 J55 : Int32 → Int32 → Int32 → Int32 → Int32 → Int32 → Int32 → Int32 → (Nat → Int32) → (Nat → Int32) → (Nat → Int32) → (Nat → Int32) → (Nat → Int32) → (Nat → Int32) → Prop}
    {b d1 d2 e p g o : Nat} {co' : Nat → Int32} {x2 : Int32} (hb : b ≤ 1) (h1 : d1 ≤ 1) (h2 : d2 ≤ 1) (hp : p < 20) (eo : op p = nI o) (ho : o = 11 ∨ o = 12)
    (wp : ∀ post : Int32 → SY → Prop, post (nI d2) (nI c, oc, aa, tn, tt, oo, op, ns, co', ce, ly, ls) → wpY_reach post (nI c, oc, aa, tn, tt, oo, op, ns, co, ce, ly, ls) (ns p) (nI g))
    (H : J55 (nI (if b = 0 then if d1 = 0 then d2 else 1 else 1)) (nI (e + 1)) (nI c) oc aa tn tt oo op ns co' ce ly ls) :
    wY_follow_151 post J40 J55 (nI b) x2 (nI e) (nI p) (nI g) (nI d1) (nI c) oc aa tn tt oo op ns co ce ly ls := by
  have vq : vp_in (nI p) 20 := vp_in_nI hp (by omega)
  have e1 : op (nI p).toNatClampNeg = nI o := by rw [nI_clamp (by omega)]; exact eo
  have en : ns (nI p).toNatClampNeg = ns p := by rw [nI_clamp (by omega)]
  have H2 := sc_y198 (post := post) (J40 := J40) (x2 := x2) hb h1 h2 H
  have f : wY_follow_177 post J40 J55 (nI b) x2 (nI e) (nI p) (nI g) (nI d1) (nI c) oc aa tn tt oo op ns co ce ly ls := by
    refine ⟨vq, ?_⟩
    rw [en]
    refine wp _ ?_
    rcases sc_d01 h2 with rfl | rfl
    · exact br_t rfl H2
    · exact br_f (by decide) H2
  rcases ho with rfl | rfl
  · exact ⟨vq, br_t (by rw [e1]; rfl) f⟩
  · exact ⟨vq, br_f (by rw [e1]; decide) ⟨vq, br_t (by rw [e1]; rfl) f⟩⟩
theorem sc_y151b {post : SY → Prop} {J40 J55 : Int32 → Int32 → Int32 → Int32 → Int32 → Int32 → Int32 → Int32 → (Nat → Int32) → (Nat → Int32) → (Nat → Int32) → (Nat → Int32) → (Nat → Int32) → (Nat → Int32) → Prop}
    {b d1 e p g o : Nat} {x2 : Int32} (hb : b ≤ 1) (h1 : d1 ≤ 1) (hp : p < 20) (eo : op p = nI o) (h14 : o < 14) (ho : ¬ (o = 11 ∨ o = 12))
    (H : J55 (nI (if b = 0 then d1 else 1)) (nI (e + 1)) (nI c) oc aa tn tt oo op ns co ce ly ls) :
    wY_follow_151 post J40 J55 (nI b) x2 (nI e) (nI p) (nI g) (nI d1) (nI c) oc aa tn tt oo op ns co ce ly ls := by
  have vq : vp_in (nI p) 20 := vp_in_nI hp (by omega)
  have e1 : op (nI p).toNatClampNeg = nI o := by rw [nI_clamp (by omega)]; exact eo
  have H2 : wY_follow_198 post J40 J55 (nI b) x2 (nI e) (nI d1) (nI 0) (nI c) oc aa tn tt oo op ns co ce ly ls := by
    refine sc_y198 hb h1 (by omega) ?_
    rcases sc_d01 h1 with rfl | rfl
    · exact H
    · exact H
  exact ⟨vq, br_f (by rw [e1]; exact fun z => ho (Or.inl ((nI_eq (b := 11) (by omega) (by decide)).mp z))) ⟨vq, br_f (by rw [e1]; exact fun z => ho (Or.inr ((nI_eq (b := 12) (by omega) (by decide)).mp z))) H2⟩⟩
end
