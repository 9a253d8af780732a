/-! the reference's faults and fits, the component's fits -/
section
variable {c : Nat} {oc aa tn tt oo : Int32} {op ns co ce ly ls : Nat → Int32}
theorem sc_y105 {post : Int32 → SY → Prop} {J11 : Int32 → Int32 → Int32 → Prop} {O : Nat → Nat} {p h a : Nat} {x3 : Int32} (hp : p < 20) (eo : op p = nI (O p)) (ho : O p < 14) (hh : h < 7)
    (z : Int32) (hz : z = if sc_far O ns c p then 1 else 0) (H : J11 (nI (a ||| sc_ct O ns c p h)) x3 (nI (h + 1))) :
    wY_faults_105 post J11 (nI p) (nI a) x3 (nI h) z (nI c) oc aa tn tt oo op ns co ce ly ls := by
  have vq : vp_in (nI p) 20 := vp_in_nI hp (by omega)
  have e : op (nI p).toNatClampNeg = nI (O p) := by rw [nI_clamp (by omega)]; exact eo
  have n2 := sc_nd2 (O p)
  unfold sc_ct at H
  refine ⟨vq, ?_⟩
  rw [e]
  refine sc_yneed ho ?_
  by_cases y : h < sc_nd (O p)
  · rw [if_pos y] at H
    exact br_f (nI_ge y (by omega)) (nm_r (sc_or a 1) (nm_r (nI_1 h) H))
  · rw [if_neg y] at H
    refine br_t (nI_le (by omega) (by omega)) ?_
    by_cases w : 7 < h + sc_rs (O p)
    · rw [if_pos w] at H
      exact sc_ycan0 hp eo ho hh (by omega) (br_t rfl (nm_r (sc_or a 2) (nm_r (nI_1 h) H)))
    · rw [if_neg w] at H
      refine sc_ycan1 hp eo ho hh (by omega) (by omega) (br_f (by decide) ?_)
      by_cases f : sc_far O ns c p
      · rw [if_pos f] at H hz
        exact br_f (by rw [hz]; decide) (nm_r (sc_or a 4) (nm_r (nI_1 h) H))
      · rw [if_neg f] at H hz
        exact br_t hz (nm_r (sc_or a 0) (nm_r (nI_1 h) H))
theorem sc_y11 {post : Int32 → SY → Prop} {O : Nat → Nat} {W : Nat → Nat} {p : Nat} (hc : c ≤ 20) (hp : p < c) (Y : sc_Y W co) (eo : op p = nI (O p)) (ho : O p < 14)
    (H : post (nI (sc_F O ns c W p)) (nI c, oc, aa, tn, tt, oo, op, ns, co, ce, ly, ls)) : ∀ d h, h + d = 7 →
    wY_faults_11 post (nI p) (nI c) oc aa tn tt oo op ns co ce ly ls (d + 1) (nI (sc_fo (W p) (sc_ct O ns c p) h)) (nI (sc_cn (W p) h)) (nI h) := by
  have hp2 : p < 20 := by omega
  have vq : vp_in (nI p) 20 := vp_in_nI hp2 (by omega)
  have e : op (nI p).toNatClampNeg = nI (O p) := by rw [nI_clamp (by omega)]; exact eo
  have en : ns (nI p).toNatClampNeg = ns p := by rw [nI_clamp (by omega)]
  have ec : co (nI p).toNatClampNeg = nI (W p) := by rw [nI_clamp (by omega)]; exact (Y p hp2).2
  have e1 : nI p + 1 = nI (p + 1) := nI_1 p
  have in1 := sc_ins1 hc (q := p + 1) (by omega)
  intro d
  induction d with
  | zero =>
    intro h hd
    have h7 : h = 7 := by omega
    subst h7
    refine br_t (nI_le (a := 7) (by omega) (by omega)) ?_
    have l := sc_cn_le (W p) 7
    unfold sc_F sc_mx at H
    by_cases m : 1 < sc_cn (W p) 7
    · rw [if_pos m, ← sc_or] at H
      exact br_f (nI_ge (a := 1) m (by omega)) H
    · rw [if_neg m, Nat.or_zero] at H
      exact br_t (nI_le (b := 1) (by omega) (by decide)) H
  | succ d ih =>
    intro h hd
    have hh : h < 7 := by omega
    have r := ih (h + 1) (by omega)
    have t1 := sc_t1 (W p) (Y p hp2).1 h hh
    refine br_f (nI_ge (b := 7) (by omega) (by decide)) (sc_yin1 hc hp (br_f (by decide) ⟨vq, ?_⟩))
    have ef : sc_fo (W p) (sc_ct O ns c p) (h + 1) = sc_fo (W p) (sc_ct O ns c p) h ||| (if (W p).testBit h = true then sc_ct O ns c p h else 0) := rfl
    rw [ef, sc_cn_s] at r
    by_cases z : (W p).testBit h = true
    · rw [if_pos z, if_pos z] at r
      refine br_t (by rw [ec]; exact t1.mpr z) (nm_r (nI_1 _) ⟨vq, ?_⟩)
      have G := fun z hz => sc_y105 (post := post) (oc := oc) (aa := aa) (tn := tn) (tt := tt) (oo := oo) (co := co) (ce := ce) (ly := ly) (ls := ls) hp2 eo ho hh z hz r
      have i11 : nI (O p) = 11 ↔ O p = 11 := nI_eq (b := 11) (by omega) (by decide)
      have i12 : nI (O p) = 12 ↔ O p = 12 := nI_eq (b := 12) (by omega) (by decide)
      have F65 : (sc_far O ns c p ↔ ((O p = 11 ∨ O p = 12) ∧ ¬ (0 ≤ ns p ∧ ns p < nI c))) → wY_faults_65 post (wY_faults_11 post (nI p) (nI c) oc aa tn tt oo op ns co ce ly ls (d + 1)) (nI p) (nI (sc_fo (W p) (sc_ct O ns c p) h)) (nI (sc_cn (W p) h + 1)) (nI h) (nI c) oc aa tn tt oo op ns co ce ly ls := by
        intro ff
        have F87 : (O p = 11 ∨ O p = 12) → wY_faults_87 post (wY_faults_11 post (nI p) (nI c) oc aa tn tt oo op ns co ce ly ls (d + 1)) (nI p) (nI (sc_fo (W p) (sc_ct O ns c p) h)) (nI (sc_cn (W p) h + 1)) (nI h) (nI c) oc aa tn tt oo op ns co ce ly ls := by
          intro oo'
          refine ⟨vq, ?_⟩
          rw [en]
          by_cases i : 0 ≤ ns p ∧ ns p < nI c
          · obtain ⟨q, hq, eq⟩ := (sc_ins c hc (ns p)).mp i
            rw [eq]
            exact sc_yin1 hc hq (br_f (by decide) (G 0 (by rw [if_neg (fun s => (ff.mp s).2 i)])))
          · exact sc_yin0 i (br_t rfl (G 1 (by rw [if_pos (ff.mpr ⟨oo', i⟩)])))
        by_cases o11 : O p = 11
        · exact ⟨vq, br_t (by rw [e]; exact i11.mpr o11) (F87 (Or.inl o11))⟩
        · by_cases o12 : O p = 12
          · exact ⟨vq, br_f (by rw [e, i11]; exact o11) ⟨vq, br_t (by rw [e]; exact i12.mpr o12) (F87 (Or.inr o12))⟩⟩
          · refine ⟨vq, br_f (by rw [e, i11]; exact o11) ⟨vq, br_f (by rw [e, i12]; exact o12) (G 0 ?_)⟩⟩
            rw [if_neg (fun s => (ff.mp s).1.elim o11 o12)]
      by_cases o12 : O p < 12
      · refine br_f (by rw [e]; exact nI_ge (b := 12) o12 (by decide)) ?_
        rw [e1]
        by_cases j : p + 1 < c
        · exact sc_yin1 hc j (br_f (by decide) (F65 ⟨fun s => s.elim (fun s => absurd j s.2) id, Or.inr⟩))
        · exact sc_yin0 (fun s => j (in1.mp s)) (br_t rfl (G 1 (by rw [if_pos (Or.inl ⟨o12, j⟩)])))
      · exact br_t (by rw [e]; exact nI_le (a := 12) (by omega) (by omega)) (F65 ⟨fun s => s.elim (fun s => absurd s.1 o12) id, Or.inr⟩)
    · rw [if_neg z, if_neg z, Nat.or_zero] at r
      exact br_f (by rw [ec, t1]; exact z) (nm_r (nI_1 h) r)
theorem sc_yfaults (hc : c ≤ 20) (I : sc_I c op ns) {V : Nat → Nat} (hV : sc_Pic (sc_o op) ns c V) {p : Nat} (hp : p < c) :
    ∃ co' : Nat → Int32, ∀ post : Int32 → SY → Prop, post (nI (sc_F (sc_o op) ns c V p)) (nI c, oc, aa, tn, tt, oo, op, ns, co', ce, ly, ls) → wpY_faults post (nI c, oc, aa, tn, tt, oo, op, ns, co, ce, ly, ls) (nI p) := by
  obtain ⟨W', co', R, wp⟩ := sc_yfollow (oc := oc) (aa := aa) (tn := tn) (tt := tt) (oo := oo) (co := co) (ce := ce) (ly := ly) (ls := ls) hc I
  refine ⟨co', fun post H => ?_⟩
  unfold wpY_faults
  dsimp only
  refine wp _ ⟨8, ?_⟩
  rw [sc_F_e (sc_o op) ns c (sc_Pic_u (sc_o op) ns c hV R.2 hp)] at H
  exact sc_y11 hc hp R.1 (I p hp).1 (I p hp).2.1 H 7 0 rfl
theorem sc_yfaults0 (hc : c ≤ 20) (I : sc_I c op ns) {x : Int32} (hx : ¬ (0 ≤ x ∧ x < nI c)) :
    ∃ co' : Nat → Int32, ∀ post : Int32 → SY → Prop, post 0 (nI c, oc, aa, tn, tt, oo, op, ns, co', ce, ly, ls) → wpY_faults post (nI c, oc, aa, tn, tt, oo, op, ns, co, ce, ly, ls) x := by
  obtain ⟨W', co', R, wp⟩ := sc_yfollow (oc := oc) (aa := aa) (tn := tn) (tt := tt) (oo := oo) (co := co) (ce := ce) (ly := ly) (ls := ls) hc I
  refine ⟨co', fun post H => ?_⟩
  unfold wpY_faults
  dsimp only
  exact wp _ ⟨1, br_f (by decide) (sc_yin0 hx (br_t rfl (br_t (by decide) H)))⟩
/-- does it fit -/
def sc_fit (op ns : Nat → Int32) (c : Nat) (V : Nat → Nat) : Int32 := if 0 < c ∧ sc_ou (sc_F (sc_o op) ns c V) c = 0 then 1 else 0
theorem sc_ou16 (op ns : Nat → Int32) (c : Nat) (V : Nat → Nat) (n : Nat) : sc_ou (sc_F (sc_o op) ns c V) n < 16 := sc_ou_8 (b := 4) (sc_F16 (sc_o op) ns c V) n
theorem sc_y4 (hc : c ≤ 20) (I : sc_I c op ns) {V : Nat → Nat} (hV : sc_Pic (sc_o op) ns c V) : ∀ (d p : Nat) (co : Nat → Int32), p + d = c →
    ∃ co' : Nat → Int32, ∀ post : Int32 → SY → Prop, post (sc_fit op ns c V) (nI c, oc, aa, tn, tt, oo, op, ns, co', ce, ly, ls) → wY_fits_4 post (d + 1) (nI (sc_ou (sc_F (sc_o op) ns c V) p)) (nI p) (nI c) oc aa tn tt oo op ns co ce ly ls := by
  intro d
  induction d with
  | zero =>
    intro p co hd
    have e : p = c := by omega
    subst e
    refine ⟨co, fun post H => br_t (nI_le (Nat.le_refl _) (by omega)) ?_⟩
    have l := sc_ou16 op ns p V p
    unfold sc_fit at H
    by_cases z : 0 < p
    · refine br_f (nI_nle z (by omega)) ?_
      by_cases y : sc_ou (sc_F (sc_o op) ns p V) p = 0
      · rw [if_pos ⟨z, y⟩] at H
        exact br_t (by rw [y]; rfl) H
      · rw [if_neg (fun s => y s.2)] at H
        exact br_f (nI_ne0 (by omega) (by omega)) H
    · rw [if_neg (fun s => z s.1)] at H
      exact br_t (nI_le (b := 0) (by omega) (by decide)) H
  | succ d ih =>
    intro p co hd
    obtain ⟨co1, wp1⟩ := sc_yfaults (oc := oc) (aa := aa) (tn := tn) (tt := tt) (oo := oo) (co := co) (ce := ce) (ly := ly) (ls := ls) hc I hV (p := p) (by omega)
    obtain ⟨co2, wp2⟩ := ih (p + 1) co1 (by omega)
    refine ⟨co2, fun post H => br_f (nI_ge (by omega) (by omega)) (wp1 _ (nm_r (sc_or _ _) (nm_r (nI_1 p) (wp2 post H))))⟩
theorem sc_yfits (hc : c ≤ 20) (I : sc_I c op ns) {V : Nat → Nat} (hV : sc_Pic (sc_o op) ns c V) :
    ∃ co' : Nat → Int32, ∀ post : Int32 → SY → Prop, post (sc_fit op ns c V) (nI c, oc, aa, tn, tt, oo, op, ns, co', ce, ly, ls) → wpY_fits post (nI c, oc, aa, tn, tt, oo, op, ns, co, ce, ly, ls) := by
  obtain ⟨co', wp⟩ := sc_y4 (oc := oc) (aa := aa) (tn := tn) (tt := tt) (oo := oo) (ce := ce) (ly := ly) (ls := ls) hc I hV c 0 co (by omega)
  exact ⟨co', fun post H => ⟨_, wp post H⟩⟩
end
section
variable {c : Nat} {pf tt oo oc : Int32} {op ns ha fa pl lo ce la : Nat → Int32}
theorem sc_x4 (hc : c ≤ 20) {V : Nat → Nat} (hf : ∀ p, p < c → fa p = nI (sc_F (sc_o op) ns c V p)) {post : Int32 → Prop} (H : post (sc_fit op ns c V)) : ∀ (d p : Nat), p + d = c →
    wX_fits_4 post (nI c) pf tt oo oc op ns ha fa pl lo ce la (d + 1) (nI (sc_ou (sc_F (sc_o op) ns c V) p)) (nI p) := by
  intro d
  induction d with
  | zero =>
    intro p hd
    have e : p = c := by omega
    subst e
    refine br_t (nI_le (Nat.le_refl _) (by omega)) ?_
    have l := sc_ou16 op ns p V p
    unfold sc_fit at H
    by_cases z : 0 < p
    · refine br_f (nI_nle z (by omega)) ?_
      by_cases y : sc_ou (sc_F (sc_o op) ns p V) p = 0
      · rw [if_pos ⟨z, y⟩] at H
        exact br_t (by rw [y]; rfl) H
      · rw [if_neg (fun s => y s.2)] at H
        exact br_f (nI_ne0 (by omega) (by omega)) H
    · rw [if_neg (fun s => z s.1)] at H
      exact br_t (nI_le (b := 0) (by omega) (by decide)) H
  | succ d ih =>
    intro p hd
    have vq : vp_in (nI p) 20 := vp_in_nI (by omega) (by omega)
    have e : fa (nI p).toNatClampNeg = nI (sc_F (sc_o op) ns c V p) := by rw [nI_clamp (by omega)]; exact hf p (by omega)
    refine br_f (nI_ge (by omega) (by omega)) ⟨vq, nm_r ?_ (nm_r (nI_1 p) (ih (p + 1) (by omega)))⟩
    rw [e, sc_or]
    rfl
theorem sc_xfits (hc : c ≤ 20) {V : Nat → Nat} (hf : ∀ p, p < c → fa p = nI (sc_F (sc_o op) ns c V p)) {post : Int32 → Prop} (H : post (sc_fit op ns c V)) : wpX_fits post (nI c, pf, tt, oo, oc, op, ns, ha, fa, pl, lo, ce, la) :=
  ⟨_, sc_x4 hc hf H c 0 (by omega)⟩
end
