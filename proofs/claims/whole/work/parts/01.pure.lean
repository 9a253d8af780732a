/-! the places that a walk can reach, as a least set; bit sets as numbers below 128 -/
theorem sc_or (a b : Nat) : nI a ||| nI b = nI (a ||| b) := by
  apply Int32.toBitVec_inj.1
  show BitVec.ofNat 32 a ||| BitVec.ofNat 32 b = BitVec.ofNat 32 (a ||| b)
  apply BitVec.eq_of_getLsbD_eq
  intro i hi
  simp [hi]
/-- how many cells an operation wants -/
def sc_nd (o : Nat) : Nat := if o = 8 ∨ (3 ≤ o ∧ o ≤ 6) then 2 else if o = 2 ∨ o = 7 ∨ (9 ≤ o ∧ o ≤ 11) then 1 else 0
/-- its growth, plus one -/
def sc_rs (o : Nat) : Nat := if o = 0 ∨ o = 1 ∨ o = 7 then 2 else if o = 8 ∨ 12 ≤ o then 1 else 0
theorem sc_ndrs : ∀ o, o < 14 → 1 ≤ sc_nd o + sc_rs o := by decide
theorem sc_rs2 (o : Nat) : sc_rs o ≤ 2 := by
  unfold sc_rs
  split
  · omega
  · split <;> omega
theorem sc_nd2 (o : Nat) : sc_nd o ≤ 2 := by
  unfold sc_nd
  split
  · omega
  · split <;> omega
section
variable (O : Nat → Nat) (M : Nat → Int32) (c : Nat)
/-- one step of a walk -/
def sc_E (p h q g : Nat) : Prop :=
  sc_nd (O p) ≤ h ∧ h + sc_rs (O p) ≤ 7 ∧ g + 1 = h + sc_rs (O p) ∧ q < c ∧
  ((O p < 12 ∧ q = p + 1) ∨ ((O p = 11 ∨ O p = 12) ∧ M p = nI q))
def sc_Cl (S : Nat → Nat → Prop) : Prop :=
  S 0 0 ∧ ∀ p h q g, p < c → h < 7 → S p h → sc_E O M c p h q g → S q g
/-- the places of all walks: the least closed set -/
def sc_R (p h : Nat) : Prop := ∀ S : Nat → Nat → Prop, sc_Cl O M c S → S p h
theorem sc_R0 : sc_R O M c 0 0 := fun _ hS => hS.1
theorem sc_Rs {p h q g : Nat} (hp : p < c) (hh : h < 7) (hR : sc_R O M c p h) (hE : sc_E O M c p h q g) : sc_R O M c q g :=
  fun S hS => hS.2 p h q g hp hh (hR S hS) hE
theorem sc_Eb {p h q g : Nat} (hE : sc_E O M c p h q g) : q < c ∧ g < 7 := by
  obtain ⟨_, h2, h3, h4, _⟩ := hE
  exact ⟨h4, by omega⟩
theorem sc_Rb (hc : 0 < c) {p h : Nat} (hR : sc_R O M c p h) : p < c ∧ h < 7 :=
  hR (fun p h => p < c ∧ h < 7) ⟨⟨hc, by omega⟩, fun _ _ _ _ _ _ _ hE => sc_Eb O M c hE⟩
/-- an end outside the program -/
abbrev sc_far (p : Nat) : Prop := (O p < 12 ∧ ¬ p + 1 < c) ∨ ((O p = 11 ∨ O p = 12) ∧ ¬ (0 ≤ M p ∧ M p < nI c))
/-- what one place adds to the faults of its position -/
def sc_ct (p h : Nat) : Nat := if h < sc_nd (O p) then 1 else if 7 < h + sc_rs (O p) then 2 else if sc_far O M c p then 4 else 0
theorem sc_ct8 (p h : Nat) : sc_ct O M c p h < 8 := by
  unfold sc_ct
  split
  · omega
  · split
    · omega
    · split <;> omega
end
def sc_ou (k : Nat → Nat) : Nat → Nat
  | 0 => 0
  | n + 1 => sc_ou k n ||| k n
theorem sc_ou_s (k : Nat → Nat) (n : Nat) : sc_ou k (n + 1) = sc_ou k n ||| k n := rfl
theorem sc_ou_ins {k k' : Nat → Nat} {j v : Nat} (hj : k' j = k j ||| v) (hne : ∀ i, i ≠ j → k' i = k i) :
    ∀ n, sc_ou k' n = if j < n then sc_ou k n ||| v else sc_ou k n := by
  intro n
  induction n with
  | zero => rw [if_neg (by omega)]; rfl
  | succ n ih =>
    rw [sc_ou_s, sc_ou_s, ih]
    by_cases h : j < n
    · rw [if_pos h, if_pos (by omega), hne n (by omega), Nat.or_assoc, Nat.or_comm v, ← Nat.or_assoc]
    · rw [if_neg h]
      by_cases h2 : j = n
      · rw [if_pos (by omega), ← h2, hj, Nat.or_assoc]
      · rw [if_neg (by omega), hne n (by omega)]
theorem sc_ou_0 {k : Nat → Nat} : ∀ {n : Nat}, sc_ou k n = 0 → ∀ i, i < n → k i = 0 := by
  intro n
  induction n with
  | zero => intro _ i hi; omega
  | succ n ih =>
    intro h i hi
    rw [sc_ou_s, Nat.or_eq_zero_iff] at h
    by_cases e : i = n
    · rw [e]; exact h.2
    · exact ih h.1 i (by omega)
theorem sc_ou_8 {k : Nat → Nat} {b : Nat} (hk : ∀ i, k i < 2 ^ b) : ∀ n, sc_ou k n < 2 ^ b := by
  intro n
  induction n with
  | zero => exact Nat.two_pow_pos b
  | succ n ih => rw [sc_ou_s]; exact Nat.or_lt_two_pow ih (hk n)
theorem sc_ou_e {k k' : Nat → Nat} : ∀ n, (∀ i, i < n → k i = k' i) → sc_ou k n = sc_ou k' n := by
  intro n
  induction n with
  | zero => intro _; rfl
  | succ n ih => intro h; rw [sc_ou_s, sc_ou_s, ih (fun i hi => h i (by omega)), h n (by omega)]
theorem sc_tb (t h i : Nat) : (t ||| 2 ^ h).testBit i = (t.testBit i || decide (h = i)) := by
  rw [Nat.testBit_or, Nat.testBit_two_pow]
theorem sc_tbs (t h : Nat) : (t ||| 2 ^ h).testBit h = true := by
  rw [sc_tb]; simp
theorem sc_tbn (t : Nat) {h i : Nat} (e : i ≠ h) : (t ||| 2 ^ h).testBit i = t.testBit i := by
  rw [sc_tb, decide_eq_false (fun z => e z.symm), Bool.or_false]
theorem sc_tbk {t h i : Nat} (z : t.testBit i = true) : (t ||| 2 ^ h).testBit i = true := by
  rw [sc_tb, z, Bool.true_or]
/-- the union of k over the members of t below n -/
def sc_fo (t : Nat) (k : Nat → Nat) (n : Nat) : Nat := sc_ou (fun h => if t.testBit h = true then k h else 0) n
theorem sc_fo_ins (t : Nat) (k : Nat → Nat) {h n : Nat} (hh : h < n) : sc_fo (t ||| 2 ^ h) k n = sc_fo t k n ||| k h := by
  have a : (fun i => if (t ||| 2 ^ h).testBit i = true then k i else 0) h = (fun i => if t.testBit i = true then k i else 0) h ||| k h := by
    show (if (t ||| 2 ^ h).testBit h = true then k h else 0) = (if t.testBit h = true then k h else 0) ||| k h
    rw [if_pos (sc_tbs t h)]
    by_cases z : t.testBit h = true
    · rw [if_pos z, Nat.or_self]
    · rw [if_neg z, Nat.zero_or]
  have b : ∀ i, i ≠ h → (fun i => if (t ||| 2 ^ h).testBit i = true then k i else 0) i = (fun i => if t.testBit i = true then k i else 0) i := by
    intro i hi
    show (if (t ||| 2 ^ h).testBit i = true then k i else 0) = (if t.testBit i = true then k i else 0)
    rw [sc_tbn t hi]
  have r := sc_ou_ins (k := fun i => if t.testBit i = true then k i else 0) (k' := fun i => if (t ||| 2 ^ h).testBit i = true then k i else 0) (j := h) (v := k h) a b n
  rw [if_pos hh] at r
  exact r
theorem sc_fo_8 (t : Nat) {k : Nat → Nat} (hk : ∀ i, k i < 8) (n : Nat) : sc_fo t k n < 8 := by
  refine sc_ou_8 (b := 3) (fun i => ?_) n
  show (if t.testBit i = true then k i else 0) < 8
  split
  · exact hk i
  · omega
theorem sc_fo_0 {t : Nat} {k : Nat → Nat} {n : Nat} (h : sc_fo t k n = 0) {i : Nat} (hi : i < n) (z : t.testBit i = true) : k i = 0 := by
  have r := sc_ou_0 h i hi
  rw [if_pos z] at r
  exact r
/-- how many members below n -/
def sc_cn (t : Nat) : Nat → Nat
  | 0 => 0
  | n + 1 => sc_cn t n + if t.testBit n = true then 1 else 0
theorem sc_cn_s (t n : Nat) : sc_cn t (n + 1) = sc_cn t n + if t.testBit n = true then 1 else 0 := rfl
theorem sc_cn_le (t : Nat) : ∀ n, sc_cn t n ≤ n := by
  intro n
  induction n with
  | zero => exact Nat.le_refl 0
  | succ n ih =>
    rw [sc_cn_s]
    split <;> omega
theorem sc_cn_ins (t h : Nat) (z : ¬ t.testBit h = true) : ∀ n, sc_cn (t ||| 2 ^ h) n = if h < n then sc_cn t n + 1 else sc_cn t n := by
  intro n
  induction n with
  | zero => rw [if_neg (by omega)]; rfl
  | succ n ih =>
    rw [sc_cn_s, sc_cn_s, ih]
    by_cases e : n = h
    · rw [e, sc_tbs, if_neg (by omega), if_pos rfl, if_pos (by omega), if_neg z]
      try omega
    · rw [sc_tbn t e]
      by_cases l : h < n
      · rw [if_pos l, if_pos (by omega : h < n + 1)]; omega
      · rw [if_neg l, if_neg (by omega : ¬ h < n + 1)]
theorem sc_cn_in7 {t h : Nat} (z : ¬ t.testBit h = true) (hh : h < 7) : sc_cn (t ||| 2 ^ h) 7 = sc_cn t 7 + 1 := by
  rw [sc_cn_ins t h z, if_pos hh]
theorem sc_cn_z : ∀ t, t < 128 → (sc_cn t 7 = 0 ↔ t = 0) := by decide +kernel
/-- MIXED, as the number of members says it -/
def sc_mx (t : Nat) : Nat := if 1 < sc_cn t 7 then 8 else 0
theorem sc_mx0 : sc_mx 0 = 0 := by decide
theorem sc_mx_ins {t h : Nat} (ht : t < 128) (z : ¬ t.testBit h = true) (hh : h < 7) : sc_mx (t ||| 2 ^ h) = if t = 0 then 0 else 8 := by
  unfold sc_mx
  rw [sc_cn_in7 z hh]
  have r := sc_cn_z t ht
  by_cases e : t = 0
  · rw [if_pos e, if_neg (by have := r.mpr e; omega)]
  · rw [if_neg e, if_pos (by have : ¬ sc_cn t 7 = 0 := fun q => e (r.mp q); omega)]
theorem sc_mx_or (F t : Nat) : (F ||| sc_mx t) ||| 8 = F ||| 8 := by
  unfold sc_mx
  split
  · rw [Nat.or_assoc, Nat.or_self]
  · rw [Nat.or_zero]
theorem sc_mx16 (t : Nat) : sc_mx t < 16 := by
  unfold sc_mx
  split <;> omega
/-- the member h put into the set at p -/
def sc_st (W : Nat → Nat) (p h : Nat) : Nat → Nat := fun q => if q = p then W p ||| 2 ^ h else W q
theorem sc_st_s (W : Nat → Nat) (p h : Nat) : sc_st W p h p = W p ||| 2 ^ h := if_pos rfl
theorem sc_st_n (W : Nat → Nat) {p h q : Nat} (e : q ≠ p) : sc_st W p h q = W q := if_neg e
theorem sc_st_b {W : Nat → Nat} {p h q g : Nat} : (sc_st W p h q).testBit g = true ↔ ((W q).testBit g = true ∨ (q = p ∧ g = h)) := by
  by_cases e : q = p
  · rw [e, sc_st_s, sc_tb, Bool.or_eq_true, decide_eq_true_eq]
    exact ⟨fun x => x.elim Or.inl (fun y => Or.inr ⟨rfl, y.symm⟩), fun x => x.elim Or.inl (fun y => Or.inr y.2.symm)⟩
  · rw [sc_st_n W e]
    simp [e]
theorem sc_st_l {W : Nat → Nat} {p h : Nat} (hh : h < 7) {q : Nat} (h1 : W q < 128) (h2 : W p < 128) : sc_st W p h q < 128 := by
  by_cases e : q = p
  · rw [e, sc_st_s]
    exact Nat.or_lt_two_pow (n := 7) h2 (Nat.pow_lt_pow_right (by omega) hh)
  · rw [sc_st_n W e]; exact h1
/-- all members at positions below n -/
def sc_ca (W : Nat → Nat) : Nat → Nat
  | 0 => 0
  | p + 1 => sc_ca W p + sc_cn (W p) 7
theorem sc_ca_s (W : Nat → Nat) (p : Nat) : sc_ca W (p + 1) = sc_ca W p + sc_cn (W p) 7 := rfl
theorem sc_ca_le (W : Nat → Nat) : ∀ n, sc_ca W n ≤ 7 * n := by
  intro n
  induction n with
  | zero => exact Nat.le_refl 0
  | succ n ih =>
    rw [sc_ca_s]
    have := sc_cn_le (W n) 7
    omega
theorem sc_ca_ins {W : Nat → Nat} {p h : Nat} (hh : h < 7) (z : ¬ (W p).testBit h = true) : ∀ n, sc_ca (sc_st W p h) n = if p < n then sc_ca W n + 1 else sc_ca W n := by
  intro n
  induction n with
  | zero => rw [if_neg (by omega)]; rfl
  | succ n ih =>
    rw [sc_ca_s, sc_ca_s, ih]
    by_cases e : n = p
    · rw [e, sc_st_s, sc_cn_in7 z hh, if_neg (by omega), if_pos (by omega)]; omega
    · rw [sc_st_n W e]
      by_cases l : p < n
      · rw [if_pos l, if_pos (by omega : p < n + 1)]; omega
      · rw [if_neg l, if_neg (by omega : ¬ p < n + 1)]
theorem sc_ca_in {W : Nat → Nat} {p h : Nat} (hp : p < 20) (hh : h < 7) (z : ¬ (W p).testBit h = true) : sc_ca (sc_st W p h) 20 = sc_ca W 20 + 1 := by
  rw [sc_ca_ins hh z, if_pos hp]
theorem sc_ca_lt {W : Nat → Nat} {p h : Nat} (hp : p < 20) (hh : h < 7) (z : ¬ (W p).testBit h = true) : sc_ca W 20 < 140 := by
  have a := sc_ca_in hp hh z
  have b := sc_ca_le (sc_st W p h) 20
  omega
theorem sc_ca_0 {W : Nat → Nat} (h : ∀ p, p < 20 → W p = 0) : ∀ n, n ≤ 20 → sc_ca W n = 0 := by
  intro n
  induction n with
  | zero => intro _; rfl
  | succ n ih =>
    intro hn
    rw [sc_ca_s, ih (by omega), h n (by omega)]
    rfl
theorem sc_ext {a b : Nat} (ha : a < 128) (hb : b < 128) (h : ∀ i, i < 7 → (a.testBit i = true ↔ b.testBit i = true)) : a = b := by
  apply Nat.eq_of_testBit_eq
  intro i
  by_cases hi : i < 7
  · exact Bool.eq_iff_iff.mpr (h i hi)
  · have p : (2 : Nat) ^ 7 ≤ 2 ^ i := Nat.pow_le_pow_right (by omega) (by omega)
    rw [Nat.testBit_lt_two_pow (Nat.lt_of_lt_of_le (show a < 2 ^ 7 from ha) p), Nat.testBit_lt_two_pow (Nat.lt_of_lt_of_le (show b < 2 ^ 7 from hb) p)]
section
variable (O : Nat → Nat) (M : Nat → Int32) (c : Nat)
/-- W shows the reached places -/
def sc_Pic (W : Nat → Nat) : Prop := ∀ p, p < c → W p < 128 ∧ ∀ h, h < 7 → ((W p).testBit h = true ↔ sc_R O M c p h)
theorem sc_Pic_u {W V : Nat → Nat} (h : sc_Pic O M c W) (h' : sc_Pic O M c V) {p : Nat} (hp : p < c) : W p = V p :=
  sc_ext (h p hp).1 (h' p hp).1 (fun i hi => ((h p hp).2 i hi).trans ((h' p hp).2 i hi).symm)
theorem sc_Pic_of {W : Nat → Nat} (hb : ∀ p, p < c → W p < 128) (h0 : (W 0).testBit 0 = true)
    (hs : ∀ p h, p < c → h < 7 → (W p).testBit h = true → sc_R O M c p h)
    (hc : ∀ p h q g, p < c → h < 7 → (W p).testBit h = true → sc_E O M c p h q g → (W q).testBit g = true) : sc_Pic O M c W :=
  fun p hp => ⟨hb p hp, fun h hh => ⟨hs p h hp hh, fun hR => hR (fun p h => (W p).testBit h = true) ⟨h0, hc⟩⟩⟩
/-- the faults at p -/
def sc_F (W : Nat → Nat) (p : Nat) : Nat := sc_fo (W p) (sc_ct O M c p) 7 ||| sc_mx (W p)
theorem sc_F16 (W : Nat → Nat) (p : Nat) : sc_F O M c W p < 16 :=
  Nat.or_lt_two_pow (n := 4) (Nat.lt_trans (sc_fo_8 (W p) (sc_ct8 O M c p) 7) (by omega)) (sc_mx16 (W p))
theorem sc_F_e {W V : Nat → Nat} {p : Nat} (h : W p = V p) : sc_F O M c W p = sc_F O M c V p := by
  unfold sc_F
  rw [h]
/-- inside: a position of the program -/
theorem sc_ins (hc : c ≤ 20) (x : Int32) : (0 ≤ x ∧ x < nI c) ↔ ∃ q, q < c ∧ x = nI q := by
  constructor
  · intro ⟨h0, h1⟩
    obtain ⟨j, hj, rfl⟩ := nI_of (x := x) (Int32.not_lt.mpr h0)
    rw [nI_ltI hj (by omega)] at h1
    exact ⟨j, h1, rfl⟩
  · intro ⟨q, hq, e⟩
    rw [e]
    exact ⟨nI_pos' (by omega), nI_lt hq (by omega)⟩
/-- a reached place of a program without faults -/
theorem sc_safe (hc : c ≤ 20) {W : Nat → Nat} (hP : sc_Pic O M c W) (h0 : ∀ p, p < c → sc_F O M c W p = 0) {p h : Nat} (hp : p < c) (hh : h < 7) (hR : sc_R O M c p h) :
    sc_nd (O p) ≤ h ∧ h + sc_rs (O p) ≤ 7 ∧ (O p < 12 → p + 1 < c) ∧ (O p = 11 ∨ O p = 12 → ∃ q, q < c ∧ M p = nI q) := by
  have z := h0 p hp
  unfold sc_F at z
  rw [Nat.or_eq_zero_iff] at z
  have y := sc_fo_0 z.1 hh (((hP p hp).2 h hh).mpr hR)
  unfold sc_ct at y
  by_cases a : h < sc_nd (O p)
  · rw [if_pos a] at y; omega
  · rw [if_neg a] at y
    by_cases b : 7 < h + sc_rs (O p)
    · rw [if_pos b] at y; omega
    · rw [if_neg b] at y
      by_cases f : sc_far O M c p
      · rw [if_pos f] at y; omega
      · refine ⟨by omega, by omega, fun l => ?_, fun l => ?_⟩
        · exact Decidable.byContradiction fun n => f (Or.inl ⟨l, n⟩)
        · exact (sc_ins c hc (M p)).mp (Decidable.byContradiction fun n => f (Or.inr ⟨l, n⟩))
end
