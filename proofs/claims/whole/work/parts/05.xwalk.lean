/-! the component's methods that judge a program, each with a general post -/
theorem sc_t1 : ∀ n, n < 128 → ∀ h, h < 7 → ((nI n >>> (nI h &&& 31)) &&& 1 = 1 ↔ n.testBit h = true) := by decide +kernel
theorem sc_t2 : ∀ n, n < 128 → ∀ h, h < 7 → (nI n &&& ((1 : Int32) <<< (nI h &&& 31)) = 0 ↔ ¬ n.testBit h = true) := by decide +kernel
theorem sc_t3 : ∀ h, h < 7 → (1 : Int32) <<< (nI h &&& 31) = nI (2 ^ h) := by decide +kernel
/-- growth, as both sides answer it -/
def sc_gr (o : Nat) : Int32 := if o = 0 ∨ o = 1 ∨ o = 7 then 1 else if o = 8 ∨ 12 ≤ o then 0 else -1
theorem sc_gr_e : ∀ o, o < 14 → sc_gr o = nI (sc_rs o) + (-1) := by decide +kernel
theorem sc_gr_a {o g h : Nat} (ho : o < 14) (e : g + 1 = h + sc_rs o) : nI h + sc_gr o = nI g := by
  rw [sc_gr_e o ho, ← Int32.add_assoc, nI_add, ← e, pk_m1]
theorem sc_14 {o : Nat} (ho : o < 14) : o = 0 ∨ o = 1 ∨ o = 2 ∨ o = 3 ∨ o = 4 ∨ o = 5 ∨ o = 6 ∨ o = 7 ∨ o = 8 ∨ o = 9 ∨ o = 10 ∨ o = 11 ∨ o = 12 ∨ o = 13 := by omega
theorem sc_ins1 {c q : Nat} (hc : c ≤ 20) (hq : q ≤ 20) : (0 ≤ nI q ∧ nI q < nI c) ↔ q < c := by
  rw [nI_ltI (by omega) (by omega)]
  exact ⟨fun h => h.2, fun h => ⟨nI_pos' (by omega), h⟩⟩
section
variable {c : Nat} {pf tt oo oc : Int32} {op ns ha fa pl lo ce la : Nat → Int32}
theorem sc_xpos1 {post : Int32 → Prop} {q : Nat} (hc : c ≤ 20) (hq : q < c) (h : post 1) : wpX_isPosition post (nI c, pf, tt, oo, oc, op, ns, ha, fa, pl, lo, ce, la) (nI q) :=
  br_f (nI_pos (by omega)) (br_f (nI_ge hq (by omega)) h)
theorem sc_xpos0 {post : Int32 → Prop} {x : Int32} (hx : ¬ (0 ≤ x ∧ x < nI c)) (h : post 0) : wpX_isPosition post (nI c, pf, tt, oo, oc, op, ns, ha, fa, pl, lo, ce, la) x := by
  by_cases a : x < 0
  · exact br_t a h
  · exact br_f a (br_t (Decidable.byContradiction fun n => hx ⟨Int32.not_lt.mp a, Int32.not_le.mp n⟩) h)
theorem sc_xgrowth {post : Int32 → Prop} {o : Nat} (ho : o < 14) (h : post (sc_gr o)) : wpX_growth post (nI c, pf, tt, oo, oc, op, ns, ha, fa, pl, lo, ce, la) (nI o) := by
  rcases sc_14 ho with rfl | rfl | rfl | rfl | rfl | rfl | rfl | rfl | rfl | rfl | rfl | rfl | rfl | rfl <;>
    (unfold wpX_growth; dsimp only; repeat (first | exact h | refine br_t (by decide) ?_ | refine br_f (by decide) ?_))
theorem sc_xneed {post : Int32 → Prop} {o : Nat} (ho : o < 14) (h : post (nI (sc_nd o))) : wpX_need post (nI c, pf, tt, oo, oc, op, ns, ha, fa, pl, lo, ce, la) (nI o) := by
  rcases sc_14 ho with rfl | rfl | rfl | rfl | rfl | rfl | rfl | rfl | rfl | rfl | rfl | rfl | rfl | rfl <;>
    (unfold wpX_need; dsimp only; repeat (first | exact h | refine br_t (by decide) ?_ | refine br_f (by decide) ?_))
theorem sc_xcome {W F : Nat → Nat} {f q g : Nat} (K : sc_K c W F f ha fa pl) (hc : c ≤ 20) (hq : q < c) (hg : g < 7) :
    ∃ (W' : Nat → Nat) (f' : Nat) (ha' fa' pl' : Nat → Int32), sc_K c W' F f' ha' fa' pl' ∧ f ≤ f' ∧ (∀ j, j < f → pl' j = pl j) ∧
      (∀ p h, p < 20 → h < 7 → ((W' p).testBit h = true ↔ ((W p).testBit h = true ∨ (p = q ∧ h = g)))) ∧
      ∀ post : SX → Prop, post (nI c, nI f', tt, oo, oc, op, ns, ha', fa', pl', lo, ce, la) → wpX_comeTo post (nI c, nI f, tt, oo, oc, op, ns, ha, fa, pl, lo, ce, la) (nI q) (nI g) := by
  have hq2 : q < 20 := by omega
  have kq := K.1 q hq2
  have fl := sc_K_le K
  have vq : vp_in (nI q) 20 := vp_in_nI hq2 (by omega)
  have eq : ha (nI q).toNatClampNeg = nI (W q) := by rw [nI_clamp (by omega)]; exact kq.2.2.1
  have eg : fa (nI q).toNatClampNeg = nI (F q ||| sc_mx (W q)) := by rw [nI_clamp (by omega)]; exact kq.2.2.2
  have t2 := sc_t2 (W q) kq.1 g hg
  by_cases z : (W q).testBit g = true
  · refine ⟨W, f, ha, fa, pl, K, Nat.le_refl f, fun _ _ => rfl, fun p h _ _ => ⟨Or.inl, fun x => x.elim id (fun y => by rw [y.1, y.2]; exact z)⟩, fun post hp => ?_⟩
    refine nm_e ⟨vq, br_f ?_ hp⟩
    rw [eq, t2]
    exact fun n => n z
  · have lt := sc_ca_lt hq2 hg z
    rw [← K.2.1] at lt
    have vf : vp_in (nI f) 140 := vp_in_nI lt (by omega)
    have e1 : ha (nI q).toNatClampNeg ||| ((1 : Int32) <<< (nI g &&& 31)) = nI (W q ||| 2 ^ g) := by rw [eq, sc_t3 g hg, sc_or]
    have u1 : upd ha (nI q).toNatClampNeg (ha (nI q).toNatClampNeg ||| ((1 : Int32) <<< (nI g &&& 31))) = upd ha q (nI (W q ||| 2 ^ g)) := by
      rw [e1, nI_clamp (by omega)]
    have e2 : nI q * 7 + nI g = nI (q * 7 + g) := by
      rw [show (7 : Int32) = nI 7 from rfl, pk_mul, nI_add]
    have u2 : upd pl (nI f).toNatClampNeg (nI q * 7 + nI g) = upd pl f (nI (q * 7 + g)) := by
      rw [e2, nI_clamp (by omega)]
    have t0 : ha (nI q).toNatClampNeg &&& ((1 : Int32) <<< (nI g &&& 31)) = 0 := by rw [eq, t2]; exact z
    by_cases y : W q = 0
    · refine ⟨sc_st W q g, f + 1, upd ha q (nI (W q ||| 2 ^ g)), fa, upd pl f (nI (q * 7 + g)), sc_K_new K hc hq hg z (sc_fb_z K hg y), by omega, fun j hj => pk_un (by omega), fun p h _ _ => sc_st_b, fun post hp => ?_⟩
      have y0 : ha (nI q).toNatClampNeg = 0 := by rw [eq, y]; rfl
      exact nm_e ⟨vq, br_t t0 (br_t (nI_lt (b := 140) lt (by decide)) ⟨vq, br_t y0 ⟨vq, vq, nm_r u1 ⟨vf, nm_r u2 (nm_r (nI_1 f) hp)⟩⟩⟩)⟩
    · refine ⟨sc_st W q g, f + 1, upd ha q (nI (W q ||| 2 ^ g)), upd fa q (nI ((F q ||| sc_mx (W q)) ||| 8)), upd pl f (nI (q * 7 + g)), sc_K_new K hc hq hg z (sc_fb_n K hq2 hg z y), by omega, fun j hj => pk_un (by omega), fun p h _ _ => sc_st_b, fun post hp => ?_⟩
      have y0 : ¬ ha (nI q).toNatClampNeg = 0 := by
        rw [eq]
        exact nI_ne0 (by omega) (by have := kq.1; omega)
      have u3 : upd fa (nI q).toNatClampNeg (fa (nI q).toNatClampNeg ||| 8) = upd fa q (nI ((F q ||| sc_mx (W q)) ||| 8)) := by
        rw [eg, show (8 : Int32) = nI 8 from rfl, sc_or, nI_clamp (by omega)]
      exact nm_e ⟨vq, br_t t0 (br_t (nI_lt (b := 140) lt (by decide)) ⟨vq, br_f y0 ⟨vq, vq, nm_r u3 ⟨vq, vq, nm_r u1 ⟨vf, nm_r u2 (nm_r (nI_1 f) hp)⟩⟩⟩⟩)⟩
theorem sc_xgo {W F : Nat → Nat} {f p g : Nat} (K : sc_K c W F f ha fa pl) (hc : c ≤ 20) (hp : p < 20) (hg : g < 7) (x : Int32) :
    ∃ (W' F' : Nat → Nat) (f' : Nat) (ha' fa' pl' : Nat → Int32), sc_K c W' F' f' ha' fa' pl' ∧ f ≤ f' ∧ (∀ j, j < f → pl' j = pl j) ∧
      (∀ q h, q < 20 → h < 7 → ((W' q).testBit h = true ↔ ((W q).testBit h = true ∨ (q < c ∧ x = nI q ∧ h = g)))) ∧
      F' = sc_fs F p (if 0 ≤ x ∧ x < nI c then 0 else 4) ∧
      ∀ post : SX → Prop, post (nI c, nI f', tt, oo, oc, op, ns, ha', fa', pl', lo, ce, la) → wpX_goOn post (nI c, nI f, tt, oo, oc, op, ns, ha, fa, pl, lo, ce, la) (nI p) x (nI g) := by
  by_cases i : 0 ≤ x ∧ x < nI c
  · obtain ⟨q, hq, rfl⟩ := (sc_ins c hc x).mp i
    obtain ⟨W', f', ha', fa', pl', K', l, pre, bits, wp⟩ := sc_xcome (tt := tt) (oo := oo) (oc := oc) (op := op) (ns := ns) (lo := lo) (ce := ce) (la := la) K hc hq hg
    refine ⟨W', F, f', ha', fa', pl', K', l, pre, fun q' h' a b => ?_, by rw [if_pos i, sc_fs_0], fun post hp => ?_⟩
    · rw [bits q' h' a b]
      constructor
      · intro s
        rcases s with s | ⟨s1, s2⟩
        · exact Or.inl s
        · exact Or.inr ⟨by omega, by rw [s1], s2⟩
      · intro s
        rcases s with s | ⟨s0, s1, s2⟩
        · exact Or.inl s
        · rw [nI_eq (by omega) (by omega)] at s1
          exact Or.inr ⟨s1.symm, s2⟩
    · unfold wpX_goOn
      dsimp only
      exact sc_xpos1 hc hq (br_f (by decide) (wp _ hp))
  · have vq : vp_in (nI p) 20 := vp_in_nI hp (by omega)
    refine ⟨W, sc_fs F p 4, f, ha, _, pl, sc_K_fl (p := p) K (by omega), Nat.le_refl f, fun _ _ => rfl, fun q' h' a b => ?_, by rw [if_neg i], fun post hp' => ?_⟩
    · constructor
      · exact Or.inl
      · intro s
        rcases s with s | ⟨s0, s1, s2⟩
        · exact s
        · exact absurd ((sc_ins c hc x).mpr ⟨q', s0, s1⟩) i
    · have u3 : upd fa (nI p).toNatClampNeg (fa (nI p).toNatClampNeg ||| 4) = upd fa p (nI ((F p ||| sc_mx (W p)) ||| 4)) := by
        rw [nI_clamp (by omega), (K.1 p hp).2.2.2, show (4 : Int32) = nI 4 from rfl, sc_or]
      unfold wpX_goOn
      dsimp only
      exact sc_xpos0 i (br_t rfl ⟨vq, vq, nm_r u3 hp'⟩)
end
