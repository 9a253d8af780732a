/-! the component's picture while it follows the walks, kept by each of its writes -/
/-- the faults v put to those at p -/
def sc_fs (F : Nat → Nat) (p v : Nat) : Nat → Nat := fun q => if q = p then F p ||| v else F q
theorem sc_fs_s (F : Nat → Nat) (p v : Nat) : sc_fs F p v p = F p ||| v := if_pos rfl
theorem sc_fs_n (F : Nat → Nat) {p v q : Nat} (e : q ≠ p) : sc_fs F p v q = F q := if_neg e
theorem sc_fs_0 (F : Nat → Nat) (p : Nat) : sc_fs F p 0 = F := by
  funext q
  by_cases e : q = p
  · rw [e, sc_fs_s, Nat.or_zero]
  · rw [sc_fs_n F e]
theorem sc_fs_2 (F : Nat → Nat) (p v w : Nat) : sc_fs (sc_fs F p v) p w = sc_fs F p (v ||| w) := by
  funext q
  by_cases e : q = p
  · rw [e, sc_fs_s, sc_fs_s, sc_fs_s, Nat.or_assoc]
  · rw [sc_fs_n _ e, sc_fs_n _ e, sc_fs_n _ e]
/-- W: the heights found, F: the faults but MIXED, f: how many places are listed -/
def sc_K (c : Nat) (W F : Nat → Nat) (f : Nat) (ha fa pl : Nat → Int32) : Prop :=
  (∀ p, p < 20 → W p < 128 ∧ F p < 8 ∧ ha p = nI (W p) ∧ fa p = nI (F p ||| sc_mx (W p))) ∧
  f = sc_ca W 20 ∧
  (∀ j, j < f → ∃ p h, p < c ∧ h < 7 ∧ pl j = nI (p * 7 + h) ∧ (W p).testBit h = true) ∧
  (∀ p h, p < 20 → h < 7 → (W p).testBit h = true → ∃ j, j < f ∧ pl j = nI (p * 7 + h))
theorem sc_K_le {c : Nat} {W F : Nat → Nat} {f : Nat} {ha fa pl : Nat → Int32} (K : sc_K c W F f ha fa pl) : f ≤ 140 := by
  rw [K.2.1]
  exact sc_ca_le W 20
theorem sc_K_F {c : Nat} {W F G : Nat → Nat} {f : Nat} {ha fa pl : Nat → Int32} (K : sc_K c W F f ha fa pl) (h : ∀ p, p < 20 → F p = G p) : sc_K c W G f ha fa pl := by
  refine ⟨fun p hp => ?_, K.2⟩
  rw [← h p hp]
  exact K.1 p hp
theorem sc_K_new {c : Nat} {W F : Nat → Nat} {f : Nat} {ha fa pl fb : Nat → Int32} (K : sc_K c W F f ha fa pl) {q g : Nat} (hc : c ≤ 20) (hq : q < c) (hg : g < 7)
    (z : ¬ (W q).testBit g = true) (hb : ∀ p, p < 20 → fb p = nI (F p ||| sc_mx (sc_st W q g p))) :
    sc_K c (sc_st W q g) F (f + 1) (upd ha q (nI (W q ||| 2 ^ g))) fb (upd pl f (nI (q * 7 + g))) := by
  obtain ⟨k1, k2, k3, k4⟩ := K
  refine ⟨fun p hp => ⟨?_, (k1 p hp).2.1, ?_, hb p hp⟩, ?_, ?_, ?_⟩
  · exact sc_st_l hg (k1 p hp).1 (k1 q (by omega)).1
  · by_cases e : p = q
    · rw [e, pk_us, sc_st_s]
    · rw [pk_un e, sc_st_n W e]; exact (k1 p hp).2.2.1
  · rw [sc_ca_in (by omega) hg z, k2]
  · intro j hj
    by_cases e : j = f
    · exact ⟨q, g, hq, hg, by rw [e, pk_us], by rw [sc_st_s]; exact sc_tbs _ _⟩
    · obtain ⟨p, h, a, b, d, w⟩ := k3 j (by omega)
      exact ⟨p, h, a, b, by rw [pk_un e]; exact d, sc_st_b.mpr (Or.inl w)⟩
  · intro p h hp hh hb
    rcases sc_st_b.mp hb with w | ⟨e1, e2⟩
    · obtain ⟨j, hj, ej⟩ := k4 p h hp hh w
      exact ⟨j, by omega, by rw [pk_un (by omega)]; exact ej⟩
    · exact ⟨f, by omega, by rw [pk_us, e1, e2]⟩
theorem sc_fb_z {c : Nat} {W F : Nat → Nat} {f : Nat} {ha fa pl : Nat → Int32} (K : sc_K c W F f ha fa pl) {q g : Nat} (hg : g < 7) (z : W q = 0) :
    ∀ p, p < 20 → fa p = nI (F p ||| sc_mx (sc_st W q g p)) := by
  intro p hp
  by_cases e : p = q
  · have w : ¬ (W q).testBit g = true := by rw [z]; simp
    have m := sc_mx_ins (by rw [z]; omega) w hg
    rw [if_pos z] at m
    have r := (K.1 p hp).2.2.2
    rw [e, z, sc_mx0] at r
    rw [e, sc_st_s, m]
    exact r
  · rw [sc_st_n W e]; exact (K.1 p hp).2.2.2
theorem sc_fb_n {c : Nat} {W F : Nat → Nat} {f : Nat} {ha fa pl : Nat → Int32} (K : sc_K c W F f ha fa pl) {q g : Nat} (hq : q < 20) (hg : g < 7)
    (w : ¬ (W q).testBit g = true) (z : ¬ W q = 0) :
    ∀ p, p < 20 → upd fa q (nI ((F q ||| sc_mx (W q)) ||| 8)) p = nI (F p ||| sc_mx (sc_st W q g p)) := by
  intro p hp
  by_cases e : p = q
  · have m := sc_mx_ins (K.1 q hq).1 w hg
    rw [if_neg z] at m
    rw [e, pk_us, sc_st_s, m, sc_mx_or]
  · rw [pk_un e, sc_st_n W e]; exact (K.1 p hp).2.2.2
theorem sc_K_fl {c : Nat} {W F : Nat → Nat} {f : Nat} {ha fa pl : Nat → Int32} (K : sc_K c W F f ha fa pl) {p v : Nat} (hv : v < 8) :
    sc_K c W (sc_fs F p v) f ha (upd fa p (nI ((F p ||| sc_mx (W p)) ||| v))) pl := by
  refine ⟨fun q hq => ?_, K.2⟩
  obtain ⟨a, b, d, e⟩ := K.1 q hq
  by_cases z : q = p
  · rw [← z, sc_fs_s, pk_us]
    refine ⟨a, Nat.or_lt_two_pow (n := 3) b hv, d, congrArg nI ?_⟩
    rw [Nat.or_assoc, Nat.or_comm (sc_mx (W q)), ← Nat.or_assoc]
  · rw [sc_fs_n F z, pk_un z]
    exact ⟨a, b, d, e⟩
/-- a place's number says its position and its height -/
theorem sc_pos {p h q g : Nat} (hh : h < 7) (hg : g < 7) (hp : p < 20) (hq : q < 20) (e : nI (p * 7 + h) = nI (q * 7 + g)) : p = q ∧ h = g := by
  rw [nI_eq (by omega) (by omega)] at e
  omega
section
variable (O : Nat → Nat) (M : Nat → Int32) (c : Nat)
/-- the component's loop at place i: T, the heights followed -/
def sc_L (W T : Nat → Nat) (i f : Nat) (ha fa pl : Nat → Int32) : Prop :=
  sc_K c W (fun p => sc_fo (T p) (sc_ct O M c p) 7) f ha fa pl ∧ i ≤ f ∧ (∀ p, p < 20 → T p < 128) ∧
  (W 0).testBit 0 = true ∧
  (∀ p h, p < 20 → h < 7 → (W p).testBit h = true → sc_R O M c p h) ∧
  (∀ p h, p < 20 → h < 7 → ((T p).testBit h = true ↔ ∃ j, j < i ∧ pl j = nI (p * 7 + h))) ∧
  (∀ p h q g, p < c → h < 7 → (T p).testBit h = true → sc_E O M c p h q g → (W q).testBit g = true)
/-- what follow does to the picture -/
def sc_S (p h : Nat) (W W' F F' : Nat → Nat) (f f' : Nat) (pl pl' : Nat → Int32) : Prop :=
  f ≤ f' ∧ (∀ j, j < f → pl' j = pl j) ∧
  (∀ q g, q < 20 → g < 7 → ((W' q).testBit g = true ↔ ((W q).testBit g = true ∨ sc_E O M c p h q g))) ∧
  F' = sc_fs F p (sc_ct O M c p h)
theorem sc_L_s (hc : c ≤ 20) {W T W' F' : Nat → Nat} {i f f' : Nat} {ha fa pl ha' fa' pl' : Nat → Int32} {p h : Nat}
    (L : sc_L O M c W T i f ha fa pl) (hi : i < f) (hp : p < c) (hh : h < 7) (e : pl i = nI (p * 7 + h)) (w : (W p).testBit h = true)
    (K' : sc_K c W' F' f' ha' fa' pl') (S : sc_S O M c p h W W' (fun p => sc_fo (T p) (sc_ct O M c p) 7) F' f f' pl pl') :
    sc_L O M c W' (sc_st T p h) (i + 1) f' ha' fa' pl' := by
  obtain ⟨K, l1, l2, l3, l4, l5, l6⟩ := L
  obtain ⟨s1, s2, s3, s4⟩ := S
  have hc0 : 0 < c := by omega
  refine ⟨sc_K_F K' (fun q hq => ?_), by omega, fun q hq => sc_st_l hh (l2 q hq) (l2 p (by omega)), ?_, ?_, ?_, ?_⟩
  · rw [s4]
    show sc_fs (fun p => sc_fo (T p) (sc_ct O M c p) 7) p (sc_ct O M c p h) q = sc_fo (sc_st T p h q) (sc_ct O M c q) 7
    by_cases z : q = p
    · rw [z, sc_fs_s, sc_st_s, sc_fo_ins _ _ hh]
    · rw [sc_fs_n _ z, sc_st_n T z]
  · exact (s3 0 0 (by omega) (by omega)).mpr (Or.inl l3)
  · intro q g hq hg b
    rcases (s3 q g hq hg).mp b with b | b
    · exact l4 q g hq hg b
    · exact sc_Rs O M c hp hh (l4 p h (by omega) hh w) b
  · intro q g hq hg
    rw [sc_st_b, l5 q g hq hg]
    constructor
    · intro b
      rcases b with ⟨j, hj, ej⟩ | ⟨e1, e2⟩
      · exact ⟨j, by omega, by rw [s2 j (by omega)]; exact ej⟩
      · exact ⟨i, by omega, by rw [s2 i hi, e, e1, e2]⟩
    · intro ⟨j, hj, ej⟩
      by_cases z : j = i
      · rw [z, s2 i hi, e] at ej
        have r := sc_pos hh hg (by omega) hq ej
        exact Or.inr ⟨r.1.symm, r.2.symm⟩
      · rw [s2 j (by omega)] at ej
        exact Or.inl ⟨j, by omega, ej⟩
  · intro q g q' g' hq hg b hE
    have r := sc_Eb O M c hE
    refine (s3 q' g' (by omega) r.2).mpr ?_
    rcases sc_st_b.mp b with b | ⟨e1, e2⟩
    · exact Or.inl (l6 q g q' g' hq hg b hE)
    · rw [e1, e2] at hE
      exact Or.inr hE
/-- the loop's end -/
theorem sc_L_e (hc : c ≤ 20) {W T : Nat → Nat} {f : Nat} {ha fa pl : Nat → Int32} (L : sc_L O M c W T f f ha fa pl) :
    sc_Pic O M c W ∧ ∀ p, p < c → ha p = nI (W p) ∧ fa p = nI (sc_F O M c W p) := by
  obtain ⟨K, l1, l2, l3, l4, l5, l6⟩ := L
  have e : ∀ p, p < 20 → T p = W p := by
    intro p hp
    refine sc_ext (l2 p hp) (K.1 p hp).1 (fun h hh => ?_)
    rw [l5 p h hp hh]
    constructor
    · intro ⟨j, hj, ej⟩
      obtain ⟨q, g, hq, hg, eq, w⟩ := K.2.2.1 j hj
      rw [ej] at eq
      have r := sc_pos hh hg hp (by omega) eq
      rw [r.1, r.2]
      exact w
    · exact K.2.2.2 p h hp hh
  refine ⟨sc_Pic_of O M c (fun p hp => (K.1 p (by omega)).1) l3 (fun p h hp hh b => l4 p h (by omega) hh b) (fun p h q g hp hh b hE => l6 p h q g hp hh (by rw [e p (by omega)]; exact b) hE), fun p hp => ?_⟩
  have r := K.1 p (by omega)
  refine ⟨r.2.2.1, ?_⟩
  have r2 := r.2.2.2
  dsimp only at r2
  rw [e p (by omega)] at r2
  exact r2
end
