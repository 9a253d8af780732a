section
/-! rows of kit/rows, pasted -/
theorem pk_us {f : Nat → Int32} {k : Nat} {x : Int32} : upd f k x k = x := if_pos rfl
theorem pk_un {f : Nat → Int32} {k j : Nat} {x : Int32} (h : j ≠ k) : upd f k x j = f j := if_neg h
theorem pk_sub {a b : Nat} (h : b ≤ a) : nI a - nI b = nI (a - b) := by
  obtain ⟨c, rfl⟩ : ∃ c, a = c + b := ⟨a - b, by omega⟩
  rw [← nI_add, Int32.add_sub_cancel, Nat.add_sub_cancel]
theorem pk_m1 (n : Nat) : nI (n + 1) + (-1) = nI n := by
  rw [← nI_1, Int32.add_assoc, show (1 : Int32) + (-1) = 0 from rfl, Int32.add_zero]
theorem pk_mul (a b : Nat) : nI a * nI b = nI (a * b) := (Int32.ofNat_mul a b).symm
theorem pk_div {a d : Nat} (ha : a < 2 ^ 31) (h0 : 0 < d) (hd : d < 2 ^ 31) : nI a / nI d = nI (a / d) := by
  apply Int32.toInt_inj.mp
  rw [lg_idiv_nonneg (by rw [nI_toInt ha]; omega) (by rw [nI_toInt hd]; omega), nI_toInt ha, nI_toInt hd, nI_toInt (Nat.lt_of_le_of_lt (Nat.div_le_self a d) ha)]
  first | rfl | exact (Int.natCast_ediv _ _).symm
theorem pk_rem {a d : Nat} (ha : a < 2 ^ 31) (h0 : 0 < d) (hd : d < 2 ^ 31) : nI a - nI a / nI d * nI d = nI (a % d) := by
  rw [pk_div ha h0 hd, pk_mul, pk_sub (Nat.div_mul_le_self a d)]
  exact congrArg nI (by have := Nat.div_add_mod' a d; omega)
theorem pk_ix (x : Int32) {n : Nat} (hn : n < 2 ^ 31) : x < 0 ∨ nI n ≤ x ∨ ∃ j : Nat, j < n ∧ x = nI j := by
  by_cases h : x < 0
  · exact Or.inl h
  · obtain ⟨j, hj, rfl⟩ := nI_of h
    by_cases h2 : j < n
    · exact Or.inr (Or.inr ⟨j, h2, rfl⟩)
    · exact Or.inr (Or.inl (nI_le (by omega) hj))
theorem pk_le {x y : Int32} {A B : Prop} (a b : Nat) (f : a ≤ b → A) (g : b < a → B) (hx : x = nI a := by rfl) (hy : y = nI b := by rfl) (ha : a < 2 ^ 31 := by omega) (hb : b < 2 ^ 31 := by omega) : (x ≤ y → A) ∧ (¬ x ≤ y → B) := by
  subst hx hy
  rw [nI_leI ha hb]
  exact ⟨f, fun z => g (by omega)⟩
theorem pk_lt {x y : Int32} {A B : Prop} (a b : Nat) (f : a < b → A) (g : b ≤ a → B) (hx : x = nI a := by rfl) (hy : y = nI b := by rfl) (ha : a < 2 ^ 31 := by omega) (hb : b < 2 ^ 31 := by omega) : (x < y → A) ∧ (¬ x < y → B) := by
  subst hx hy
  rw [nI_ltI ha hb]
  exact ⟨f, fun z => g (by omega)⟩
theorem pk_eq {x y : Int32} {A B : Prop} (a b : Nat) (f : a = b → A) (g : a ≠ b → B) (hx : x = nI a := by rfl) (hy : y = nI b := by rfl) (ha : a < 2 ^ 31 := by omega) (hb : b < 2 ^ 31 := by omega) : (x = y → A) ∧ (¬ x = y → B) := by
  subst hx hy
  rw [nI_eq ha hb]
  exact ⟨f, g⟩
theorem pk_in {x : Int32} (n N : Nat) (h : n < N) (hx : x = nI n := by rfl) (hN : N < 2 ^ 31 := by omega) : vp_in x N := by
  subst hx
  exact vp_in_nI h hN
theorem pk_cl {x : Int32} (n : Nat) (hx : x = nI n := by rfl) (h : n < 2 ^ 31 := by omega) : x.toNatClampNeg = n := by
  subst hx
  exact nI_clamp h
end
section
/-! the places that a walk can reach, as a least set; bit sets as numbers below 128 -/
theorem sc_or (a b : Nat) : nI a ||| nI b = nI (a ||| b) := by
  apply Int32.toBitVec_inj.1
  show BitVec.ofNat 32 a ||| BitVec.ofNat 32 b = BitVec.ofNat 32 (a ||| b)
  apply BitVec.eq_of_getLsbD_eq
  intro i hi
  simp [hi]
/-- how many cells an operation wants -/
def sc_nd (o : Nat) : Nat := if o = 8 ∨ (3 ≤ o ∧ o ≤ 6) then 2 else if o = 2 ∨ o = 7 ∨ (9 ≤ o ∧ o ≤ 11) then 1 else 0
/-- its growth, plus one -/
def sc_rs (o : Nat) : Nat := if o = 0 ∨ o = 1 ∨ o = 7 then 2 else if o = 8 ∨ 12 ≤ o then 1 else 0
theorem sc_ndrs : ∀ o, o < 14 → 1 ≤ sc_nd o + sc_rs o := by decide
theorem sc_rs2 (o : Nat) : sc_rs o ≤ 2 := by
  unfold sc_rs
  split
  · omega
  · split <;> omega
theorem sc_nd2 (o : Nat) : sc_nd o ≤ 2 := by
  unfold sc_nd
  split
  · omega
  · split <;> omega
section
variable (O : Nat → Nat) (M : Nat → Int32) (c : Nat)
/-- one step of a walk -/
def sc_E (p h q g : Nat) : Prop :=
  sc_nd (O p) ≤ h ∧ h + sc_rs (O p) ≤ 7 ∧ g + 1 = h + sc_rs (O p) ∧ q < c ∧
  ((O p < 12 ∧ q = p + 1) ∨ ((O p = 11 ∨ O p = 12) ∧ M p = nI q))
def sc_Cl (S : Nat → Nat → Prop) : Prop :=
  S 0 0 ∧ ∀ p h q g, p < c → h < 7 → S p h → sc_E O M c p h q g → S q g
/-- the places of all walks: the least closed set -/
def sc_R (p h : Nat) : Prop := ∀ S : Nat → Nat → Prop, sc_Cl O M c S → S p h
theorem sc_R0 : sc_R O M c 0 0 := fun _ hS => hS.1
theorem sc_Rs {p h q g : Nat} (hp : p < c) (hh : h < 7) (hR : sc_R O M c p h) (hE : sc_E O M c p h q g) : sc_R O M c q g :=
  fun S hS => hS.2 p h q g hp hh (hR S hS) hE
theorem sc_Eb {p h q g : Nat} (hE : sc_E O M c p h q g) : q < c ∧ g < 7 := by
  obtain ⟨_, h2, h3, h4, _⟩ := hE
  exact ⟨h4, by omega⟩
theorem sc_Rb (hc : 0 < c) {p h : Nat} (hR : sc_R O M c p h) : p < c ∧ h < 7 :=
  hR (fun p h => p < c ∧ h < 7) ⟨⟨hc, by omega⟩, fun _ _ _ _ _ _ _ hE => sc_Eb O M c hE⟩
/-- an end outside the program -/
abbrev sc_far (p : Nat) : Prop := (O p < 12 ∧ ¬ p + 1 < c) ∨ ((O p = 11 ∨ O p = 12) ∧ ¬ (0 ≤ M p ∧ M p < nI c))
/-- what one place adds to the faults of its position -/
def sc_ct (p h : Nat) : Nat := if h < sc_nd (O p) then 1 else if 7 < h + sc_rs (O p) then 2 else if sc_far O M c p then 4 else 0
theorem sc_ct8 (p h : Nat) : sc_ct O M c p h < 8 := by
  unfold sc_ct
  split
  · omega
  · split
    · omega
    · split <;> omega
end
def sc_ou (k : Nat → Nat) : Nat → Nat
  | 0 => 0
  | n + 1 => sc_ou k n ||| k n
theorem sc_ou_s (k : Nat → Nat) (n : Nat) : sc_ou k (n + 1) = sc_ou k n ||| k n := rfl
theorem sc_ou_ins {k k' : Nat → Nat} {j v : Nat} (hj : k' j = k j ||| v) (hne : ∀ i, i ≠ j → k' i = k i) :
    ∀ n, sc_ou k' n = if j < n then sc_ou k n ||| v else sc_ou k n := by
  intro n
  induction n with
  | zero => rw [if_neg (by omega)]; rfl
  | succ n ih =>
    rw [sc_ou_s, sc_ou_s, ih]
    by_cases h : j < n
    · rw [if_pos h, if_pos (by omega), hne n (by omega), Nat.or_assoc, Nat.or_comm v, ← Nat.or_assoc]
    · rw [if_neg h]
      by_cases h2 : j = n
      · rw [if_pos (by omega), ← h2, hj, Nat.or_assoc]
      · rw [if_neg (by omega), hne n (by omega)]
theorem sc_ou_0 {k : Nat → Nat} : ∀ {n : Nat}, sc_ou k n = 0 → ∀ i, i < n → k i = 0 := by
  intro n
  induction n with
  | zero => intro _ i hi; omega
  | succ n ih =>
    intro h i hi
    rw [sc_ou_s, Nat.or_eq_zero_iff] at h
    by_cases e : i = n
    · rw [e]; exact h.2
    · exact ih h.1 i (by omega)
theorem sc_ou_8 {k : Nat → Nat} {b : Nat} (hk : ∀ i, k i < 2 ^ b) : ∀ n, sc_ou k n < 2 ^ b := by
  intro n
  induction n with
  | zero => exact Nat.two_pow_pos b
  | succ n ih => rw [sc_ou_s]; exact Nat.or_lt_two_pow ih (hk n)
theorem sc_ou_e {k k' : Nat → Nat} : ∀ n, (∀ i, i < n → k i = k' i) → sc_ou k n = sc_ou k' n := by
  intro n
  induction n with
  | zero => intro _; rfl
  | succ n ih => intro h; rw [sc_ou_s, sc_ou_s, ih (fun i hi => h i (by omega)), h n (by omega)]
theorem sc_tb (t h i : Nat) : (t ||| 2 ^ h).testBit i = (t.testBit i || decide (h = i)) := by
  rw [Nat.testBit_or, Nat.testBit_two_pow]
theorem sc_tbs (t h : Nat) : (t ||| 2 ^ h).testBit h = true := by
  rw [sc_tb]; simp
theorem sc_tbn (t : Nat) {h i : Nat} (e : i ≠ h) : (t ||| 2 ^ h).testBit i = t.testBit i := by
  rw [sc_tb, decide_eq_false (fun z => e z.symm), Bool.or_false]
theorem sc_tbk {t h i : Nat} (z : t.testBit i = true) : (t ||| 2 ^ h).testBit i = true := by
  rw [sc_tb, z, Bool.true_or]
/-- the union of k over the members of t below n -/
def sc_fo (t : Nat) (k : Nat → Nat) (n : Nat) : Nat := sc_ou (fun h => if t.testBit h = true then k h else 0) n
theorem sc_fo_ins (t : Nat) (k : Nat → Nat) {h n : Nat} (hh : h < n) : sc_fo (t ||| 2 ^ h) k n = sc_fo t k n ||| k h := by
  have a : (fun i => if (t ||| 2 ^ h).testBit i = true then k i else 0) h = (fun i => if t.testBit i = true then k i else 0) h ||| k h := by
    show (if (t ||| 2 ^ h).testBit h = true then k h else 0) = (if t.testBit h = true then k h else 0) ||| k h
    rw [if_pos (sc_tbs t h)]
    by_cases z : t.testBit h = true
    · rw [if_pos z, Nat.or_self]
    · rw [if_neg z, Nat.zero_or]
  have b : ∀ i, i ≠ h → (fun i => if (t ||| 2 ^ h).testBit i = true then k i else 0) i = (fun i => if t.testBit i = true then k i else 0) i := by
    intro i hi
    show (if (t ||| 2 ^ h).testBit i = true then k i else 0) = (if t.testBit i = true then k i else 0)
    rw [sc_tbn t hi]
  have r := sc_ou_ins (k := fun i => if t.testBit i = true then k i else 0) (k' := fun i => if (t ||| 2 ^ h).testBit i = true then k i else 0) (j := h) (v := k h) a b n
  rw [if_pos hh] at r
  exact r
theorem sc_fo_8 (t : Nat) {k : Nat → Nat} (hk : ∀ i, k i < 8) (n : Nat) : sc_fo t k n < 8 := by
  refine sc_ou_8 (b := 3) (fun i => ?_) n
  show (if t.testBit i = true then k i else 0) < 8
  split
  · exact hk i
  · omega
theorem sc_fo_0 {t : Nat} {k : Nat → Nat} {n : Nat} (h : sc_fo t k n = 0) {i : Nat} (hi : i < n) (z : t.testBit i = true) : k i = 0 := by
  have r := sc_ou_0 h i hi
  rw [if_pos z] at r
  exact r
/-- how many members below n -/
def sc_cn (t : Nat) : Nat → Nat
  | 0 => 0
  | n + 1 => sc_cn t n + if t.testBit n = true then 1 else 0
theorem sc_cn_s (t n : Nat) : sc_cn t (n + 1) = sc_cn t n + if t.testBit n = true then 1 else 0 := rfl
theorem sc_cn_le (t : Nat) : ∀ n, sc_cn t n ≤ n := by
  intro n
  induction n with
  | zero => exact Nat.le_refl 0
  | succ n ih =>
    rw [sc_cn_s]
    split <;> omega
theorem sc_cn_ins (t h : Nat) (z : ¬ t.testBit h = true) : ∀ n, sc_cn (t ||| 2 ^ h) n = if h < n then sc_cn t n + 1 else sc_cn t n := by
  intro n
  induction n with
  | zero => rw [if_neg (by omega)]; rfl
  | succ n ih =>
    rw [sc_cn_s, sc_cn_s, ih]
    by_cases e : n = h
    · rw [e, sc_tbs, if_neg (by omega), if_pos rfl, if_pos (by omega), if_neg z]
      try omega
    · rw [sc_tbn t e]
      by_cases l : h < n
      · rw [if_pos l, if_pos (by omega : h < n + 1)]; omega
      · rw [if_neg l, if_neg (by omega : ¬ h < n + 1)]
theorem sc_cn_in7 {t h : Nat} (z : ¬ t.testBit h = true) (hh : h < 7) : sc_cn (t ||| 2 ^ h) 7 = sc_cn t 7 + 1 := by
  rw [sc_cn_ins t h z, if_pos hh]
theorem sc_cn_z : ∀ t, t < 128 → (sc_cn t 7 = 0 ↔ t = 0) := by decide +kernel
/-- MIXED, as the number of members says it -/
def sc_mx (t : Nat) : Nat := if 1 < sc_cn t 7 then 8 else 0
theorem sc_mx0 : sc_mx 0 = 0 := by decide
theorem sc_mx_ins {t h : Nat} (ht : t < 128) (z : ¬ t.testBit h = true) (hh : h < 7) : sc_mx (t ||| 2 ^ h) = if t = 0 then 0 else 8 := by
  unfold sc_mx
  rw [sc_cn_in7 z hh]
  have r := sc_cn_z t ht
  by_cases e : t = 0
  · rw [if_pos e, if_neg (by have := r.mpr e; omega)]
  · rw [if_neg e, if_pos (by have : ¬ sc_cn t 7 = 0 := fun q => e (r.mp q); omega)]
theorem sc_mx_or (F t : Nat) : (F ||| sc_mx t) ||| 8 = F ||| 8 := by
  unfold sc_mx
  split
  · rw [Nat.or_assoc, Nat.or_self]
  · rw [Nat.or_zero]
theorem sc_mx16 (t : Nat) : sc_mx t < 16 := by
  unfold sc_mx
  split <;> omega
/-- the member h put into the set at p -/
def sc_st (W : Nat → Nat) (p h : Nat) : Nat → Nat := fun q => if q = p then W p ||| 2 ^ h else W q
theorem sc_st_s (W : Nat → Nat) (p h : Nat) : sc_st W p h p = W p ||| 2 ^ h := if_pos rfl
theorem sc_st_n (W : Nat → Nat) {p h q : Nat} (e : q ≠ p) : sc_st W p h q = W q := if_neg e
theorem sc_st_b {W : Nat → Nat} {p h q g : Nat} : (sc_st W p h q).testBit g = true ↔ ((W q).testBit g = true ∨ (q = p ∧ g = h)) := by
  by_cases e : q = p
  · rw [e, sc_st_s, sc_tb, Bool.or_eq_true, decide_eq_true_eq]
    exact ⟨fun x => x.elim Or.inl (fun y => Or.inr ⟨rfl, y.symm⟩), fun x => x.elim Or.inl (fun y => Or.inr y.2.symm)⟩
  · rw [sc_st_n W e]
    simp [e]
theorem sc_st_l {W : Nat → Nat} {p h : Nat} (hh : h < 7) {q : Nat} (h1 : W q < 128) (h2 : W p < 128) : sc_st W p h q < 128 := by
  by_cases e : q = p
  · rw [e, sc_st_s]
    exact Nat.or_lt_two_pow (n := 7) h2 (Nat.pow_lt_pow_right (by omega) hh)
  · rw [sc_st_n W e]; exact h1
/-- all members at positions below n -/
def sc_ca (W : Nat → Nat) : Nat → Nat
  | 0 => 0
  | p + 1 => sc_ca W p + sc_cn (W p) 7
theorem sc_ca_s (W : Nat → Nat) (p : Nat) : sc_ca W (p + 1) = sc_ca W p + sc_cn (W p) 7 := rfl
theorem sc_ca_le (W : Nat → Nat) : ∀ n, sc_ca W n ≤ 7 * n := by
  intro n
  induction n with
  | zero => exact Nat.le_refl 0
  | succ n ih =>
    rw [sc_ca_s]
    have := sc_cn_le (W n) 7
    omega
theorem sc_ca_ins {W : Nat → Nat} {p h : Nat} (hh : h < 7) (z : ¬ (W p).testBit h = true) : ∀ n, sc_ca (sc_st W p h) n = if p < n then sc_ca W n + 1 else sc_ca W n := by
  intro n
  induction n with
  | zero => rw [if_neg (by omega)]; rfl
  | succ n ih =>
    rw [sc_ca_s, sc_ca_s, ih]
    by_cases e : n = p
    · rw [e, sc_st_s, sc_cn_in7 z hh, if_neg (by omega), if_pos (by omega)]; omega
    · rw [sc_st_n W e]
      by_cases l : p < n
      · rw [if_pos l, if_pos (by omega : p < n + 1)]; omega
      · rw [if_neg l, if_neg (by omega : ¬ p < n + 1)]
theorem sc_ca_in {W : Nat → Nat} {p h : Nat} (hp : p < 20) (hh : h < 7) (z : ¬ (W p).testBit h = true) : sc_ca (sc_st W p h) 20 = sc_ca W 20 + 1 := by
  rw [sc_ca_ins hh z, if_pos hp]
theorem sc_ca_lt {W : Nat → Nat} {p h : Nat} (hp : p < 20) (hh : h < 7) (z : ¬ (W p).testBit h = true) : sc_ca W 20 < 140 := by
  have a := sc_ca_in hp hh z
  have b := sc_ca_le (sc_st W p h) 20
  omega
theorem sc_ca_0 {W : Nat → Nat} (h : ∀ p, p < 20 → W p = 0) : ∀ n, n ≤ 20 → sc_ca W n = 0 := by
  intro n
  induction n with
  | zero => intro _; rfl
  | succ n ih =>
    intro hn
    rw [sc_ca_s, ih (by omega), h n (by omega)]
    rfl
theorem sc_ext {a b : Nat} (ha : a < 128) (hb : b < 128) (h : ∀ i, i < 7 → (a.testBit i = true ↔ b.testBit i = true)) : a = b := by
  apply Nat.eq_of_testBit_eq
  intro i
  by_cases hi : i < 7
  · exact Bool.eq_iff_iff.mpr (h i hi)
  · have p : (2 : Nat) ^ 7 ≤ 2 ^ i := Nat.pow_le_pow_right (by omega) (by omega)
    rw [Nat.testBit_lt_two_pow (Nat.lt_of_lt_of_le (show a < 2 ^ 7 from ha) p), Nat.testBit_lt_two_pow (Nat.lt_of_lt_of_le (show b < 2 ^ 7 from hb) p)]
section
variable (O : Nat → Nat) (M : Nat → Int32) (c : Nat)
/-- W shows the reached places -/
def sc_Pic (W : Nat → Nat) : Prop := ∀ p, p < c → W p < 128 ∧ ∀ h, h < 7 → ((W p).testBit h = true ↔ sc_R O M c p h)
theorem sc_Pic_u {W V : Nat → Nat} (h : sc_Pic O M c W) (h' : sc_Pic O M c V) {p : Nat} (hp : p < c) : W p = V p :=
  sc_ext (h p hp).1 (h' p hp).1 (fun i hi => ((h p hp).2 i hi).trans ((h' p hp).2 i hi).symm)
theorem sc_Pic_of {W : Nat → Nat} (hb : ∀ p, p < c → W p < 128) (h0 : (W 0).testBit 0 = true)
    (hs : ∀ p h, p < c → h < 7 → (W p).testBit h = true → sc_R O M c p h)
    (hc : ∀ p h q g, p < c → h < 7 → (W p).testBit h = true → sc_E O M c p h q g → (W q).testBit g = true) : sc_Pic O M c W :=
  fun p hp => ⟨hb p hp, fun h hh => ⟨hs p h hp hh, fun hR => hR (fun p h => (W p).testBit h = true) ⟨h0, hc⟩⟩⟩
/-- the faults at p -/
def sc_F (W : Nat → Nat) (p : Nat) : Nat := sc_fo (W p) (sc_ct O M c p) 7 ||| sc_mx (W p)
theorem sc_F16 (W : Nat → Nat) (p : Nat) : sc_F O M c W p < 16 :=
  Nat.or_lt_two_pow (n := 4) (Nat.lt_trans (sc_fo_8 (W p) (sc_ct8 O M c p) 7) (by omega)) (sc_mx16 (W p))
theorem sc_F_e {W V : Nat → Nat} {p : Nat} (h : W p = V p) : sc_F O M c W p = sc_F O M c V p := by
  unfold sc_F
  rw [h]
/-- inside: a position of the program -/
theorem sc_ins (hc : c ≤ 20) (x : Int32) : (0 ≤ x ∧ x < nI c) ↔ ∃ q, q < c ∧ x = nI q := by
  constructor
  · intro ⟨h0, h1⟩
    obtain ⟨j, hj, rfl⟩ := nI_of (x := x) (Int32.not_lt.mpr h0)
    rw [nI_ltI hj (by omega)] at h1
    exact ⟨j, h1, rfl⟩
  · intro ⟨q, hq, e⟩
    rw [e]
    exact ⟨nI_pos' (by omega), nI_lt hq (by omega)⟩
/-- a reached place of a program without faults -/
theorem sc_safe (hc : c ≤ 20) {W : Nat → Nat} (hP : sc_Pic O M c W) (h0 : ∀ p, p < c → sc_F O M c W p = 0) {p h : Nat} (hp : p < c) (hh : h < 7) (hR : sc_R O M c p h) :
    sc_nd (O p) ≤ h ∧ h + sc_rs (O p) ≤ 7 ∧ (O p < 12 → p + 1 < c) ∧ (O p = 11 ∨ O p = 12 → ∃ q, q < c ∧ M p = nI q) := by
  have z := h0 p hp
  unfold sc_F at z
  rw [Nat.or_eq_zero_iff] at z
  have y := sc_fo_0 z.1 hh (((hP p hp).2 h hh).mpr hR)
  unfold sc_ct at y
  by_cases a : h < sc_nd (O p)
  · rw [if_pos a] at y; omega
  · rw [if_neg a] at y
    by_cases b : 7 < h + sc_rs (O p)
    · rw [if_pos b] at y; omega
    · rw [if_neg b] at y
      by_cases f : sc_far O M c p
      · rw [if_pos f] at y; omega
      · refine ⟨by omega, by omega, fun l => ?_, fun l => ?_⟩
        · exact Decidable.byContradiction fun n => f (Or.inl ⟨l, n⟩)
        · exact (sc_ins c hc (M p)).mp (Decidable.byContradiction fun n => f (Or.inr ⟨l, n⟩))
end
end
section
/-! the component's picture while it follows the walks, kept by each of its writes -/
/-- the faults v put to those at p -/
def sc_fs (F : Nat → Nat) (p v : Nat) : Nat → Nat := fun q => if q = p then F p ||| v else F q
theorem sc_fs_s (F : Nat → Nat) (p v : Nat) : sc_fs F p v p = F p ||| v := if_pos rfl
theorem sc_fs_n (F : Nat → Nat) {p v q : Nat} (e : q ≠ p) : sc_fs F p v q = F q := if_neg e
theorem sc_fs_0 (F : Nat → Nat) (p : Nat) : sc_fs F p 0 = F := by
  funext q
  by_cases e : q = p
  · rw [e, sc_fs_s, Nat.or_zero]
  · rw [sc_fs_n F e]
theorem sc_fs_2 (F : Nat → Nat) (p v w : Nat) : sc_fs (sc_fs F p v) p w = sc_fs F p (v ||| w) := by
  funext q
  by_cases e : q = p
  · rw [e, sc_fs_s, sc_fs_s, sc_fs_s, Nat.or_assoc]
  · rw [sc_fs_n _ e, sc_fs_n _ e, sc_fs_n _ e]
/-- W: the heights found, F: the faults but MIXED, f: how many places are listed -/
def sc_K (c : Nat) (W F : Nat → Nat) (f : Nat) (ha fa pl : Nat → Int32) : Prop :=
  (∀ p, p < 20 → W p < 128 ∧ F p < 8 ∧ ha p = nI (W p) ∧ fa p = nI (F p ||| sc_mx (W p))) ∧
  f = sc_ca W 20 ∧
  (∀ j, j < f → ∃ p h, p < c ∧ h < 7 ∧ pl j = nI (p * 7 + h) ∧ (W p).testBit h = true) ∧
  (∀ p h, p < 20 → h < 7 → (W p).testBit h = true → ∃ j, j < f ∧ pl j = nI (p * 7 + h))
theorem sc_K_le {c : Nat} {W F : Nat → Nat} {f : Nat} {ha fa pl : Nat → Int32} (K : sc_K c W F f ha fa pl) : f ≤ 140 := by
  rw [K.2.1]
  exact sc_ca_le W 20
theorem sc_K_F {c : Nat} {W F G : Nat → Nat} {f : Nat} {ha fa pl : Nat → Int32} (K : sc_K c W F f ha fa pl) (h : ∀ p, p < 20 → F p = G p) : sc_K c W G f ha fa pl := by
  refine ⟨fun p hp => ?_, K.2⟩
  rw [← h p hp]
  exact K.1 p hp
theorem sc_K_new {c : Nat} {W F : Nat → Nat} {f : Nat} {ha fa pl fb : Nat → Int32} (K : sc_K c W F f ha fa pl) {q g : Nat} (hc : c ≤ 20) (hq : q < c) (hg : g < 7)
    (z : ¬ (W q).testBit g = true) (hb : ∀ p, p < 20 → fb p = nI (F p ||| sc_mx (sc_st W q g p))) :
    sc_K c (sc_st W q g) F (f + 1) (upd ha q (nI (W q ||| 2 ^ g))) fb (upd pl f (nI (q * 7 + g))) := by
  obtain ⟨k1, k2, k3, k4⟩ := K
  refine ⟨fun p hp => ⟨?_, (k1 p hp).2.1, ?_, hb p hp⟩, ?_, ?_, ?_⟩
  · exact sc_st_l hg (k1 p hp).1 (k1 q (by omega)).1
  · by_cases e : p = q
    · rw [e, pk_us, sc_st_s]
    · rw [pk_un e, sc_st_n W e]; exact (k1 p hp).2.2.1
  · rw [sc_ca_in (by omega) hg z, k2]
  · intro j hj
    by_cases e : j = f
    · exact ⟨q, g, hq, hg, by rw [e, pk_us], by rw [sc_st_s]; exact sc_tbs _ _⟩
    · obtain ⟨p, h, a, b, d, w⟩ := k3 j (by omega)
      exact ⟨p, h, a, b, by rw [pk_un e]; exact d, sc_st_b.mpr (Or.inl w)⟩
  · intro p h hp hh hb
    rcases sc_st_b.mp hb with w | ⟨e1, e2⟩
    · obtain ⟨j, hj, ej⟩ := k4 p h hp hh w
      exact ⟨j, by omega, by rw [pk_un (by omega)]; exact ej⟩
    · exact ⟨f, by omega, by rw [pk_us, e1, e2]⟩
theorem sc_fb_z {c : Nat} {W F : Nat → Nat} {f : Nat} {ha fa pl : Nat → Int32} (K : sc_K c W F f ha fa pl) {q g : Nat} (hg : g < 7) (z : W q = 0) :
    ∀ p, p < 20 → fa p = nI (F p ||| sc_mx (sc_st W q g p)) := by
  intro p hp
  by_cases e : p = q
  · have w : ¬ (W q).testBit g = true := by rw [z]; simp
    have m := sc_mx_ins (by rw [z]; omega) w hg
    rw [if_pos z] at m
    have r := (K.1 p hp).2.2.2
    rw [e, z, sc_mx0] at r
    rw [e, sc_st_s, m]
    exact r
  · rw [sc_st_n W e]; exact (K.1 p hp).2.2.2
theorem sc_fb_n {c : Nat} {W F : Nat → Nat} {f : Nat} {ha fa pl : Nat → Int32} (K : sc_K c W F f ha fa pl) {q g : Nat} (hq : q < 20) (hg : g < 7)
    (w : ¬ (W q).testBit g = true) (z : ¬ W q = 0) :
    ∀ p, p < 20 → upd fa q (nI ((F q ||| sc_mx (W q)) ||| 8)) p = nI (F p ||| sc_mx (sc_st W q g p)) := by
  intro p hp
  by_cases e : p = q
  · have m := sc_mx_ins (K.1 q hq).1 w hg
    rw [if_neg z] at m
    rw [e, pk_us, sc_st_s, m, sc_mx_or]
  · rw [pk_un e, sc_st_n W e]; exact (K.1 p hp).2.2.2
theorem sc_K_fl {c : Nat} {W F : Nat → Nat} {f : Nat} {ha fa pl : Nat → Int32} (K : sc_K c W F f ha fa pl) {p v : Nat} (hv : v < 8) :
    sc_K c W (sc_fs F p v) f ha (upd fa p (nI ((F p ||| sc_mx (W p)) ||| v))) pl := by
  refine ⟨fun q hq => ?_, K.2⟩
  obtain ⟨a, b, d, e⟩ := K.1 q hq
  by_cases z : q = p
  · rw [← z, sc_fs_s, pk_us]
    refine ⟨a, Nat.or_lt_two_pow (n := 3) b hv, d, congrArg nI ?_⟩
    rw [Nat.or_assoc, Nat.or_comm (sc_mx (W q)), ← Nat.or_assoc]
  · rw [sc_fs_n F z, pk_un z]
    exact ⟨a, b, d, e⟩
/-- a place's number says its position and its height -/
theorem sc_pos {p h q g : Nat} (hh : h < 7) (hg : g < 7) (hp : p < 20) (hq : q < 20) (e : nI (p * 7 + h) = nI (q * 7 + g)) : p = q ∧ h = g := by
  rw [nI_eq (by omega) (by omega)] at e
  omega
section
variable (O : Nat → Nat) (M : Nat → Int32) (c : Nat)
/-- the component's loop at place i: T, the heights followed -/
def sc_L (W T : Nat → Nat) (i f : Nat) (ha fa pl : Nat → Int32) : Prop :=
  sc_K c W (fun p => sc_fo (T p) (sc_ct O M c p) 7) f ha fa pl ∧ i ≤ f ∧ (∀ p, p < 20 → T p < 128) ∧
  (W 0).testBit 0 = true ∧
  (∀ p h, p < 20 → h < 7 → (W p).testBit h = true → sc_R O M c p h) ∧
  (∀ p h, p < 20 → h < 7 → ((T p).testBit h = true ↔ ∃ j, j < i ∧ pl j = nI (p * 7 + h))) ∧
  (∀ p h q g, p < c → h < 7 → (T p).testBit h = true → sc_E O M c p h q g → (W q).testBit g = true)
/-- what follow does to the picture -/
def sc_S (p h : Nat) (W W' F F' : Nat → Nat) (f f' : Nat) (pl pl' : Nat → Int32) : Prop :=
  f ≤ f' ∧ (∀ j, j < f → pl' j = pl j) ∧
  (∀ q g, q < 20 → g < 7 → ((W' q).testBit g = true ↔ ((W q).testBit g = true ∨ sc_E O M c p h q g))) ∧
  F' = sc_fs F p (sc_ct O M c p h)
theorem sc_L_s (hc : c ≤ 20) {W T W' F' : Nat → Nat} {i f f' : Nat} {ha fa pl ha' fa' pl' : Nat → Int32} {p h : Nat}
    (L : sc_L O M c W T i f ha fa pl) (hi : i < f) (hp : p < c) (hh : h < 7) (e : pl i = nI (p * 7 + h)) (w : (W p).testBit h = true)
    (K' : sc_K c W' F' f' ha' fa' pl') (S : sc_S O M c p h W W' (fun p => sc_fo (T p) (sc_ct O M c p) 7) F' f f' pl pl') :
    sc_L O M c W' (sc_st T p h) (i + 1) f' ha' fa' pl' := by
  obtain ⟨K, l1, l2, l3, l4, l5, l6⟩ := L
  obtain ⟨s1, s2, s3, s4⟩ := S
  have hc0 : 0 < c := by omega
  refine ⟨sc_K_F K' (fun q hq => ?_), by omega, fun q hq => sc_st_l hh (l2 q hq) (l2 p (by omega)), ?_, ?_, ?_, ?_⟩
  · rw [s4]
    show sc_fs (fun p => sc_fo (T p) (sc_ct O M c p) 7) p (sc_ct O M c p h) q = sc_fo (sc_st T p h q) (sc_ct O M c q) 7
    by_cases z : q = p
    · rw [z, sc_fs_s, sc_st_s, sc_fo_ins _ _ hh]
    · rw [sc_fs_n _ z, sc_st_n T z]
  · exact (s3 0 0 (by omega) (by omega)).mpr (Or.inl l3)
  · intro q g hq hg b
    rcases (s3 q g hq hg).mp b with b | b
    · exact l4 q g hq hg b
    · exact sc_Rs O M c hp hh (l4 p h (by omega) hh w) b
  · intro q g hq hg
    rw [sc_st_b, l5 q g hq hg]
    constructor
    · intro b
      rcases b with ⟨j, hj, ej⟩ | ⟨e1, e2⟩
      · exact ⟨j, by omega, by rw [s2 j (by omega)]; exact ej⟩
      · exact ⟨i, by omega, by rw [s2 i hi, e, e1, e2]⟩
    · intro ⟨j, hj, ej⟩
      by_cases z : j = i
      · rw [z, s2 i hi, e] at ej
        have r := sc_pos hh hg (by omega) hq ej
        exact Or.inr ⟨r.1.symm, r.2.symm⟩
      · rw [s2 j (by omega)] at ej
        exact Or.inl ⟨j, by omega, ej⟩
  · intro q g q' g' hq hg b hE
    have r := sc_Eb O M c hE
    refine (s3 q' g' (by omega) r.2).mpr ?_
    rcases sc_st_b.mp b with b | ⟨e1, e2⟩
    · exact Or.inl (l6 q g q' g' hq hg b hE)
    · rw [e1, e2] at hE
      exact Or.inr hE
/-- the loop's end -/
theorem sc_L_e (hc : c ≤ 20) {W T : Nat → Nat} {f : Nat} {ha fa pl : Nat → Int32} (L : sc_L O M c W T f f ha fa pl) :
    sc_Pic O M c W ∧ ∀ p, p < c → ha p = nI (W p) ∧ fa p = nI (sc_F O M c W p) := by
  obtain ⟨K, l1, l2, l3, l4, l5, l6⟩ := L
  have e : ∀ p, p < 20 → T p = W p := by
    intro p hp
    refine sc_ext (l2 p hp) (K.1 p hp).1 (fun h hh => ?_)
    rw [l5 p h hp hh]
    constructor
    · intro ⟨j, hj, ej⟩
      obtain ⟨q, g, hq, hg, eq, w⟩ := K.2.2.1 j hj
      rw [ej] at eq
      have r := sc_pos hh hg hp (by omega) eq
      rw [r.1, r.2]
      exact w
    · exact K.2.2.2 p h hp hh
  refine ⟨sc_Pic_of O M c (fun p hp => (K.1 p (by omega)).1) l3 (fun p h hp hh b => l4 p h (by omega) hh b) (fun p h q g hp hh b hE => l6 p h q g hp hh (by rw [e p (by omega)]; exact b) hE), fun p hp => ?_⟩
  have r := K.1 p (by omega)
  refine ⟨r.2.2.1, ?_⟩
  have r2 := r.2.2.2
  dsimp only at r2
  rw [e p (by omega)] at r2
  exact r2
end
end
section
/-! the reference's picture while it goes over all places, pass by pass -/
def sc_Y (W : Nat → Nat) (co : Nat → Int32) : Prop := ∀ p, p < 20 → W p < 128 ∧ co p = nI (W p)
theorem sc_Y_new {W : Nat → Nat} {co : Nat → Int32} (Y : sc_Y W co) {q g : Nat} (hq : q < 20) (hg : g < 7) : sc_Y (sc_st W q g) (upd co q (nI (W q ||| 2 ^ g))) := by
  intro p hp
  refine ⟨sc_st_l hg (Y p hp).1 (Y q hq).1, ?_⟩
  by_cases e : p = q
  · rw [e, pk_us, sc_st_s]
  · rw [pk_un e, sc_st_n W e]; exact (Y p hp).2
/-- W' holds P besides W; d says whether something is new -/
def sc_Q (W W' : Nat → Nat) (d : Nat) (P : Nat → Nat → Prop) : Prop :=
  d ≤ 1 ∧ (d = 0 → W' = W) ∧ sc_ca W 20 + d ≤ sc_ca W' 20 ∧
  ∀ q g, q < 20 → g < 7 → ((W' q).testBit g = true ↔ ((W q).testBit g = true ∨ P q g))
theorem sc_Q_0 {W : Nat → Nat} {P : Nat → Nat → Prop} (h : ∀ q g, q < 20 → g < 7 → P q g → (W q).testBit g = true) : sc_Q W W 0 P :=
  ⟨by omega, fun _ => rfl, by omega, fun q g hq hg => ⟨Or.inl, fun b => b.elim id (h q g hq hg)⟩⟩
theorem sc_Q_1 {W : Nat → Nat} {P : Nat → Nat → Prop} {q g : Nat} (hq : q < 20) (hg : g < 7) (z : ¬ (W q).testBit g = true) (h : ∀ q' g', q' < 20 → g' < 7 → (P q' g' ↔ (q' = q ∧ g' = g))) : sc_Q W (sc_st W q g) 1 P :=
  ⟨by omega, fun e => absurd e (by omega), by rw [sc_ca_in hq hg z]; omega, fun q' g' hq' hg' => by rw [sc_st_b, h q' g' hq' hg']⟩
theorem sc_Q_c {W V U : Nat → Nat} {d1 d2 : Nat} {P1 P2 P : Nat → Nat → Prop} (a : sc_Q W V d1 P1) (b : sc_Q V U d2 P2) (h : ∀ q g, q < 20 → g < 7 → (P q g ↔ (P1 q g ∨ P2 q g))) : sc_Q W U (if d1 = 0 then d2 else 1) P := by
  obtain ⟨a1, a2, a3, a4⟩ := a
  obtain ⟨b1, b2, b3, b4⟩ := b
  by_cases z : d1 = 0
  · rw [if_pos z]
    refine ⟨b1, fun e => (b2 e).trans (a2 z), by omega, fun q g hq hg => ?_⟩
    rw [b4 q g hq hg, a4 q g hq hg, h q g hq hg, or_assoc]
  · rw [if_neg z]
    refine ⟨by omega, fun e => absurd e (by omega), by omega, fun q g hq hg => ?_⟩
    rw [b4 q g hq hg, a4 q g hq hg, h q g hq hg, or_assoc]
section
variable (O : Nat → Nat) (M : Nat → Int32) (c : Nat)
/-- within a pass, ahead of the place e: b says whether the pass found something -/
def sc_V (K : Nat) (W : Nat → Nat) (b e : Nat) (co : Nat → Int32) : Prop :=
  sc_Y W co ∧ b ≤ 1 ∧ (0 < c → (W 0).testBit 0 = true) ∧
  (∀ p h, p < c → h < 7 → (W p).testBit h = true → sc_R O M c p h) ∧
  (b = 0 → ∀ p h q g, p * 7 + h < e → p < c → h < 7 → (W p).testBit h = true → sc_E O M c p h q g → (W q).testBit g = true) ∧
  K + b ≤ sc_ca W 20
theorem sc_V_n (hc : c ≤ 20) {K : Nat} {W : Nat → Nat} {b p h : Nat} {co : Nat → Int32} (V : sc_V O M c K W b (p * 7 + h) co) (hh : h < 7)
    (z : ∀ q g, (W p).testBit h = true → ¬ sc_E O M c p h q g) : sc_V O M c K W b (p * 7 + h + 1) co := by
  obtain ⟨v1, v2, v3, v4, v5, v6⟩ := V
  refine ⟨v1, v2, v3, v4, fun hb p' h' q g l hp' hh' w hE => ?_, v6⟩
  by_cases e : p' * 7 + h' = p * 7 + h
  · have e1 : p' = p := by omega
    have e2 : h' = h := by omega
    rw [e1, e2] at hE w
    exact absurd hE (z q g w)
  · exact v5 hb p' h' q g (by omega) hp' hh' w hE
theorem sc_V_s (hc : c ≤ 20) {K : Nat} {W W' : Nat → Nat} {b p h d : Nat} {co co' : Nat → Int32} (V : sc_V O M c K W b (p * 7 + h) co) (hp : p < c) (hh : h < 7)
    (w : (W p).testBit h = true) (Q : sc_Q W W' d (fun q g => sc_E O M c p h q g)) (Y' : sc_Y W' co') :
    sc_V O M c K W' (if b = 0 then d else 1) (p * 7 + h + 1) co' := by
  obtain ⟨v1, v2, v3, v4, v5, v6⟩ := V
  obtain ⟨q1, q2, q3, q4⟩ := Q
  refine ⟨Y', ?_, fun h0 => (q4 0 0 (by omega) (by omega)).mpr (Or.inl (v3 h0)), ?_, ?_, ?_⟩
  · split <;> omega
  · intro q g hq hg x
    rcases (q4 q g (by omega) hg).mp x with x | x
    · exact v4 q g hq hg x
    · exact sc_Rs O M c hp hh (v4 p h hp hh w) x
  · intro hb p' h' q g l hp' hh' x hE
    have hb0 : b = 0 := by
      by_cases e : b = 0
      · exact e
      · rw [if_neg e] at hb; omega
    rw [if_pos hb0] at hb
    have eW := q2 hb
    by_cases e : p' * 7 + h' = p * 7 + h
    · have e1 : p' = p := by omega
      have e2 : h' = h := by omega
      rw [e1, e2] at hE
      have r := sc_Eb O M c hE
      exact (q4 q g (by omega) r.2).mpr (Or.inr hE)
    · rw [eW] at x ⊢
      exact v5 hb0 p' h' q g (by omega) hp' hh' x hE
  · split <;> omega
/-- the next pass -/
theorem sc_V_p {K : Nat} {W : Nat → Nat} {e : Nat} {co : Nat → Int32} (V : sc_V O M c K W 1 e co) : sc_V O M c (K + 1) W 0 0 co := by
  obtain ⟨v1, v2, v3, v4, v5, v6⟩ := V
  exact ⟨v1, by omega, v3, v4, fun _ p h q g l => absurd l (by omega), by omega⟩
theorem sc_V_le {K : Nat} {W : Nat → Nat} {b e : Nat} {co : Nat → Int32} (V : sc_V O M c K W b e co) : K ≤ 140 := by
  have a := V.2.2.2.2.2
  have b := sc_ca_le W 20
  omega
/-- the last pass -/
theorem sc_V_e (hc : c ≤ 20) {K : Nat} {W : Nat → Nat} {co : Nat → Int32} (V : sc_V O M c K W 0 (7 * c) co) : sc_Y W co ∧ sc_Pic O M c W := by
  obtain ⟨v1, v2, v3, v4, v5, v6⟩ := V
  refine ⟨v1, ?_⟩
  by_cases z : 0 < c
  · exact sc_Pic_of O M c (fun p hp => (v1 p (by omega)).1) (v3 z) v4 (fun p h q g hp hh => v5 rfl p h q g (by omega) hp hh)
  · intro p hp; omega
end
end
section
/-! the last eight outputs: a ring at the component, a shifted row at the reference; the relation -/
def sc_G (o : Nat) (la ls : Nat → Int32) : Prop := ∀ k, k < 8 → k < o → la ((o - 1 - k) % 8) = ls k
theorem sc_G_0 (la ls : Nat → Int32) : sc_G 0 la ls := fun _ _ h => absurd h (Nat.not_lt_zero _)
theorem sc_G_s {o : Nat} {la ls ms : Nat → Int32} {x : Int32} (G : sc_G o la ls) (h : ∀ k, k < 8 → ms k = if k = 0 then x else ls (k - 1)) : sc_G (o + 1) (upd la (o % 8) x) ms := by
  intro k hk ho
  rw [h k hk]
  by_cases z : k = 0
  · have e : (o + 1 - 1 - k) % 8 = o % 8 := by rw [z]; rfl
    rw [if_pos z, e, pk_us]
  · have n : (o + 1 - 1 - k) % 8 ≠ o % 8 := by omega
    have e : (o + 1 - 1 - k) % 8 = (o - 1 - (k - 1)) % 8 := by omega
    rw [if_neg z, pk_un n, e]
    exact G (k - 1) (by omega) (by omega)
/-- the operations as numbers -/
def sc_o (op : Nat → Int32) : Nat → Nat := fun p => (op p).toNatClampNeg
/-- each position holds an instruction -/
def sc_I (c : Nat) (op ns : Nat → Int32) : Prop :=
  ∀ p, p < c → op p = nI (sc_o op p) ∧ sc_o op p < 14 ∧ (sc_o op p = 1 ∨ sc_o op p = 2 → ∃ j, j < 4 ∧ ns p = nI j)
theorem sc_I_u {c : Nat} {op ns : Nat → Int32} (I : sc_I c op ns) {q o : Nat} {n : Int32} (ho : o < 14) (hn : o = 1 ∨ o = 2 → ∃ j, j < 4 ∧ n = nI j) {d : Nat} (hd : ∀ p, p < d → p ≠ q → p < c) :
    sc_I d (upd op q (nI o)) (upd ns q n) := by
  intro p hp
  by_cases e : p = q
  · have z : sc_o (upd op q (nI o)) p = o := by
      unfold sc_o
      rw [e, pk_us, nI_clamp (by omega)]
    rw [z, e, pk_us, pk_us]
    exact ⟨rfl, ho, hn⟩
  · have z : sc_o (upd op q (nI o)) p = sc_o op p := by
      unfold sc_o
      rw [pk_un e]
    rw [z, pk_un e, pk_un e]
    exact I p (hd p hp e)
/-- the component's two tables are those of the walks -/
def sc_T (c : Nat) (op ns ha fa : Nat → Int32) : Prop :=
  ∃ W : Nat → Nat, sc_Pic (sc_o op) ns c W ∧ ∀ p, p < c → ha p = nI (W p) ∧ fa p = nI (sc_F (sc_o op) ns c W p)
theorem sc_T_0 (op ns ha fa : Nat → Int32) : sc_T 0 op ns ha fa := ⟨fun _ => 0, fun _ hp => absurd hp (Nat.not_lt_zero _), fun _ hp => absurd hp (Nat.not_lt_zero _)⟩
/-- the locals: forgotten, or the same -/
def sc_H (oc : Int32) (lx ly : Nat → Int32) : Prop :=
  (∀ i, 4 ≤ i → lx i = ly i) ∧ ((oc = 0 ∧ ∀ i, i < 4 → lx i = 0) ∨ (¬ oc = 0 ∧ lx = ly))
end
section
/-! the component's methods that judge a program, each with a general post -/
theorem sc_t1 : ∀ n, n < 128 → ∀ h, h < 7 → ((nI n >>> (nI h &&& 31)) &&& 1 = 1 ↔ n.testBit h = true) := by decide +kernel
theorem sc_t2 : ∀ n, n < 128 → ∀ h, h < 7 → (nI n &&& ((1 : Int32) <<< (nI h &&& 31)) = 0 ↔ ¬ n.testBit h = true) := by decide +kernel
theorem sc_t3 : ∀ h, h < 7 → (1 : Int32) <<< (nI h &&& 31) = nI (2 ^ h) := by decide +kernel
/-- growth, as both sides answer it -/
def sc_gr (o : Nat) : Int32 := if o = 0 ∨ o = 1 ∨ o = 7 then 1 else if o = 8 ∨ 12 ≤ o then 0 else -1
theorem sc_gr_e : ∀ o, o < 14 → sc_gr o = nI (sc_rs o) + (-1) := by decide +kernel
theorem sc_gr_a {o g h : Nat} (ho : o < 14) (e : g + 1 = h + sc_rs o) : nI h + sc_gr o = nI g := by
  rw [sc_gr_e o ho, ← Int32.add_assoc, nI_add, ← e, pk_m1]
theorem sc_14 {o : Nat} (ho : o < 14) : o = 0 ∨ o = 1 ∨ o = 2 ∨ o = 3 ∨ o = 4 ∨ o = 5 ∨ o = 6 ∨ o = 7 ∨ o = 8 ∨ o = 9 ∨ o = 10 ∨ o = 11 ∨ o = 12 ∨ o = 13 := by omega
theorem sc_ins1 {c q : Nat} (hc : c ≤ 20) (hq : q ≤ 20) : (0 ≤ nI q ∧ nI q < nI c) ↔ q < c := by
  rw [nI_ltI (by omega) (by omega)]
  exact ⟨fun h => h.2, fun h => ⟨nI_pos' (by omega), h⟩⟩
section
variable {c : Nat} {pf tt oo oc : Int32} {op ns ha fa pl lo ce la : Nat → Int32}
theorem sc_xpos1 {post : Int32 → Prop} {q : Nat} (hc : c ≤ 20) (hq : q < c) (h : post 1) : wpX_isPosition post (nI c, pf, tt, oo, oc, op, ns, ha, fa, pl, lo, ce, la) (nI q) :=
  br_f (nI_pos (by omega)) (br_f (nI_ge hq (by omega)) h)
theorem sc_xpos0 {post : Int32 → Prop} {x : Int32} (hx : ¬ (0 ≤ x ∧ x < nI c)) (h : post 0) : wpX_isPosition post (nI c, pf, tt, oo, oc, op, ns, ha, fa, pl, lo, ce, la) x := by
  by_cases a : x < 0
  · exact br_t a h
  · exact br_f a (br_t (Decidable.byContradiction fun n => hx ⟨Int32.not_lt.mp a, Int32.not_le.mp n⟩) h)
theorem sc_xgrowth {post : Int32 → Prop} {o : Nat} (ho : o < 14) (h : post (sc_gr o)) : wpX_growth post (nI c, pf, tt, oo, oc, op, ns, ha, fa, pl, lo, ce, la) (nI o) := by
  rcases sc_14 ho with rfl | rfl | rfl | rfl | rfl | rfl | rfl | rfl | rfl | rfl | rfl | rfl | rfl | rfl <;>
    (unfold wpX_growth; dsimp only; repeat (first | exact h | refine br_t (by decide) ?_ | refine br_f (by decide) ?_))
theorem sc_xneed {post : Int32 → Prop} {o : Nat} (ho : o < 14) (h : post (nI (sc_nd o))) : wpX_need post (nI c, pf, tt, oo, oc, op, ns, ha, fa, pl, lo, ce, la) (nI o) := by
  rcases sc_14 ho with rfl | rfl | rfl | rfl | rfl | rfl | rfl | rfl | rfl | rfl | rfl | rfl | rfl | rfl <;>
    (unfold wpX_need; dsimp only; repeat (first | exact h | refine br_t (by decide) ?_ | refine br_f (by decide) ?_))
theorem sc_xcome {W F : Nat → Nat} {f q g : Nat} (K : sc_K c W F f ha fa pl) (hc : c ≤ 20) (hq : q < c) (hg : g < 7) :
    ∃ (W' : Nat → Nat) (f' : Nat) (ha' fa' pl' : Nat → Int32), sc_K c W' F f' ha' fa' pl' ∧ f ≤ f' ∧ (∀ j, j < f → pl' j = pl j) ∧
      (∀ p h, p < 20 → h < 7 → ((W' p).testBit h = true ↔ ((W p).testBit h = true ∨ (p = q ∧ h = g)))) ∧
      ∀ post : SX → Prop, post (nI c, nI f', tt, oo, oc, op, ns, ha', fa', pl', lo, ce, la) → wpX_comeTo post (nI c, nI f, tt, oo, oc, op, ns, ha, fa, pl, lo, ce, la) (nI q) (nI g) := by
  have hq2 : q < 20 := by omega
  have kq := K.1 q hq2
  have fl := sc_K_le K
  have vq : vp_in (nI q) 20 := vp_in_nI hq2 (by omega)
  have eq : ha (nI q).toNatClampNeg = nI (W q) := by rw [nI_clamp (by omega)]; exact kq.2.2.1
  have eg : fa (nI q).toNatClampNeg = nI (F q ||| sc_mx (W q)) := by rw [nI_clamp (by omega)]; exact kq.2.2.2
  have t2 := sc_t2 (W q) kq.1 g hg
  by_cases z : (W q).testBit g = true
  · refine ⟨W, f, ha, fa, pl, K, Nat.le_refl f, fun _ _ => rfl, fun p h _ _ => ⟨Or.inl, fun x => x.elim id (fun y => by rw [y.1, y.2]; exact z)⟩, fun post hp => ?_⟩
    refine nm_e ⟨vq, br_f ?_ hp⟩
    rw [eq, t2]
    exact fun n => n z
  · have lt := sc_ca_lt hq2 hg z
    rw [← K.2.1] at lt
    have vf : vp_in (nI f) 140 := vp_in_nI lt (by omega)
    have e1 : ha (nI q).toNatClampNeg ||| ((1 : Int32) <<< (nI g &&& 31)) = nI (W q ||| 2 ^ g) := by rw [eq, sc_t3 g hg, sc_or]
    have u1 : upd ha (nI q).toNatClampNeg (ha (nI q).toNatClampNeg ||| ((1 : Int32) <<< (nI g &&& 31))) = upd ha q (nI (W q ||| 2 ^ g)) := by
      rw [e1, nI_clamp (by omega)]
    have e2 : nI q * 7 + nI g = nI (q * 7 + g) := by
      rw [show (7 : Int32) = nI 7 from rfl, pk_mul, nI_add]
    have u2 : upd pl (nI f).toNatClampNeg (nI q * 7 + nI g) = upd pl f (nI (q * 7 + g)) := by
      rw [e2, nI_clamp (by omega)]
    have t0 : ha (nI q).toNatClampNeg &&& ((1 : Int32) <<< (nI g &&& 31)) = 0 := by rw [eq, t2]; exact z
    by_cases y : W q = 0
    · refine ⟨sc_st W q g, f + 1, upd ha q (nI (W q ||| 2 ^ g)), fa, upd pl f (nI (q * 7 + g)), sc_K_new K hc hq hg z (sc_fb_z K hg y), by omega, fun j hj => pk_un (by omega), fun p h _ _ => sc_st_b, fun post hp => ?_⟩
      have y0 : ha (nI q).toNatClampNeg = 0 := by rw [eq, y]; rfl
      exact nm_e ⟨vq, br_t t0 (br_t (nI_lt (b := 140) lt (by decide)) ⟨vq, br_t y0 ⟨vq, vq, nm_r u1 ⟨vf, nm_r u2 (nm_r (nI_1 f) hp)⟩⟩⟩)⟩
    · refine ⟨sc_st W q g, f + 1, upd ha q (nI (W q ||| 2 ^ g)), upd fa q (nI ((F q ||| sc_mx (W q)) ||| 8)), upd pl f (nI (q * 7 + g)), sc_K_new K hc hq hg z (sc_fb_n K hq2 hg z y), by omega, fun j hj => pk_un (by omega), fun p h _ _ => sc_st_b, fun post hp => ?_⟩
      have y0 : ¬ ha (nI q).toNatClampNeg = 0 := by
        rw [eq]
        exact nI_ne0 (by omega) (by have := kq.1; omega)
      have u3 : upd fa (nI q).toNatClampNeg (fa (nI q).toNatClampNeg ||| 8) = upd fa q (nI ((F q ||| sc_mx (W q)) ||| 8)) := by
        rw [eg, show (8 : Int32) = nI 8 from rfl, sc_or, nI_clamp (by omega)]
      exact nm_e ⟨vq, br_t t0 (br_t (nI_lt (b := 140) lt (by decide)) ⟨vq, br_f y0 ⟨vq, vq, nm_r u3 ⟨vq, vq, nm_r u1 ⟨vf, nm_r u2 (nm_r (nI_1 f) hp)⟩⟩⟩⟩)⟩
theorem sc_xgo {W F : Nat → Nat} {f p g : Nat} (K : sc_K c W F f ha fa pl) (hc : c ≤ 20) (hp : p < 20) (hg : g < 7) (x : Int32) :
    ∃ (W' F' : Nat → Nat) (f' : Nat) (ha' fa' pl' : Nat → Int32), sc_K c W' F' f' ha' fa' pl' ∧ f ≤ f' ∧ (∀ j, j < f → pl' j = pl j) ∧
      (∀ q h, q < 20 → h < 7 → ((W' q).testBit h = true ↔ ((W q).testBit h = true ∨ (q < c ∧ x = nI q ∧ h = g)))) ∧
      F' = sc_fs F p (if 0 ≤ x ∧ x < nI c then 0 else 4) ∧
      ∀ post : SX → Prop, post (nI c, nI f', tt, oo, oc, op, ns, ha', fa', pl', lo, ce, la) → wpX_goOn post (nI c, nI f, tt, oo, oc, op, ns, ha, fa, pl, lo, ce, la) (nI p) x (nI g) := by
  by_cases i : 0 ≤ x ∧ x < nI c
  · obtain ⟨q, hq, rfl⟩ := (sc_ins c hc x).mp i
    obtain ⟨W', f', ha', fa', pl', K', l, pre, bits, wp⟩ := sc_xcome (tt := tt) (oo := oo) (oc := oc) (op := op) (ns := ns) (lo := lo) (ce := ce) (la := la) K hc hq hg
    refine ⟨W', F, f', ha', fa', pl', K', l, pre, fun q' h' a b => ?_, by rw [if_pos i, sc_fs_0], fun post hp => ?_⟩
    · rw [bits q' h' a b]
      constructor
      · intro s
        rcases s with s | ⟨s1, s2⟩
        · exact Or.inl s
        · exact Or.inr ⟨by omega, by rw [s1], s2⟩
      · intro s
        rcases s with s | ⟨s0, s1, s2⟩
        · exact Or.inl s
        · rw [nI_eq (by omega) (by omega)] at s1
          exact Or.inr ⟨s1.symm, s2⟩
    · unfold wpX_goOn
      dsimp only
      exact sc_xpos1 hc hq (br_f (by decide) (wp _ hp))
  · have vq : vp_in (nI p) 20 := vp_in_nI hp (by omega)
    refine ⟨W, sc_fs F p 4, f, ha, _, pl, sc_K_fl (p := p) K (by omega), Nat.le_refl f, fun _ _ => rfl, fun q' h' a b => ?_, by rw [if_neg i], fun post hp' => ?_⟩
    · constructor
      · exact Or.inl
      · intro s
        rcases s with s | ⟨s0, s1, s2⟩
        · exact s
        · exact absurd ((sc_ins c hc x).mpr ⟨q', s0, s1⟩) i
    · have u3 : upd fa (nI p).toNatClampNeg (fa (nI p).toNatClampNeg ||| 4) = upd fa p (nI ((F p ||| sc_mx (W p)) ||| 4)) := by
        rw [nI_clamp (by omega), (K.1 p hp).2.2.2, show (4 : Int32) = nI 4 from rfl, sc_or]
      unfold wpX_goOn
      dsimp only
      exact sc_xpos0 i (br_t rfl ⟨vq, vq, nm_r u3 hp'⟩)
end
end
section
/-! the component: follow, judge, forgetRun -/
theorem sc_fo_z (k : Nat → Nat) : ∀ n, sc_fo 0 k n = 0 := by
  intro n
  induction n with
  | zero => rfl
  | succ n ih =>
    show sc_fo 0 k n ||| (if (0 : Nat).testBit n = true then k n else 0) = 0
    rw [ih, if_neg (by simp)]
    rfl
section
variable {c : Nat} {pf tt oo oc : Int32} {op ns ha fa pl lo ce la : Nat → Int32}
theorem sc_xfollow {W F : Nat → Nat} {f p h : Nat} {O : Nat → Nat} (K : sc_K c W F f ha fa pl) (hc : c ≤ 20) (hp : p < c) (hh : h < 7) (hO : op p = nI (O p)) (h14 : O p < 14) :
    ∃ (W' F' : Nat → Nat) (f' : Nat) (ha' fa' pl' : Nat → Int32), sc_K c W' F' f' ha' fa' pl' ∧ sc_S O ns c p h W W' F F' f f' pl pl' ∧
      ∀ post : SX → Prop, post (nI c, nI f', tt, oo, oc, op, ns, ha', fa', pl', lo, ce, la) → wpX_follow post (nI c, nI f, tt, oo, oc, op, ns, ha, fa, pl, lo, ce, la) (nI p) (nI h) := by
  have hp2 : p < 20 := by omega
  have vq : vp_in (nI p) 20 := vp_in_nI hp2 (by omega)
  have eo : op (nI p).toNatClampNeg = nI (O p) := by rw [nI_clamp (by omega)]; exact hO
  have en : ns (nI p).toNatClampNeg = ns p := by rw [nI_clamp (by omega)]
  have n2 := sc_nd2 (O p)
  have r2 := sc_rs2 (O p)
  have nr := sc_ndrs (O p) h14
  have ufl : ∀ v, v < 8 → ∀ y : Int32, y = nI v → upd fa (nI p).toNatClampNeg (fa (nI p).toNatClampNeg ||| y) = upd fa p (nI ((F p ||| sc_mx (W p)) ||| v)) := by
    intro v _ y e
    rw [nI_clamp (by omega), (K.1 p hp2).2.2.2, e, sc_or]
  by_cases a : h < sc_nd (O p)
  · refine ⟨W, sc_fs F p 1, f, ha, _, pl, sc_K_fl (p := p) K (by omega), ⟨Nat.le_refl f, fun _ _ => rfl, fun q g _ _ => ⟨Or.inl, fun s => s.elim id (fun s => absurd s.1 (by omega))⟩, by unfold sc_ct; rw [if_pos a]⟩, fun post hp' => ?_⟩
    exact ⟨vq, nm_r eo (sc_xgrowth h14 (nm_e (sc_xneed h14 (br_f (nI_ge a (by omega)) ⟨vq, vq, nm_r (ufl 1 (by omega) 1 rfl) hp'⟩))))⟩
  · obtain ⟨g, eg⟩ : ∃ g, g + 1 = h + sc_rs (O p) := ⟨h + sc_rs (O p) - 1, by omega⟩
    have ex := sc_gr_a h14 eg
    by_cases b : 7 < h + sc_rs (O p)
    · refine ⟨W, sc_fs F p 2, f, ha, _, pl, sc_K_fl (p := p) K (by omega), ⟨Nat.le_refl f, fun _ _ => rfl, fun q g _ _ => ⟨Or.inl, fun s => s.elim id (fun s => absurd s.2.1 (by omega))⟩, by unfold sc_ct; rw [if_neg a, if_pos b]⟩, fun post hp' => ?_⟩
      have n6 : ¬ nI g ≤ 6 := nI_ge (a := 6) (by omega) (by omega)
      exact ⟨vq, nm_r eo (sc_xgrowth h14 (nm_r ex (sc_xneed h14 (br_t (nI_le (by omega) (by omega)) (br_f n6 ⟨vq, vq, nm_r (ufl 2 (by omega) 2 rfl) hp'⟩)))))⟩
    · have l6 : nI g ≤ 6 := nI_le (b := 6) (by omega) (by decide)
      have hg : g < 7 := by omega
      have lead : ∀ {post : SX → Prop}, ((nI (O p) = 11 → wX_follow_66 post (nI p) (nI (O p)) (nI g) (nI c) (nI f) tt oo oc op ns ha fa pl lo ce la) ∧ (¬ nI (O p) = 11 → ((nI (O p) = 12 → wX_follow_66 post (nI p) (nI (O p)) (nI g) (nI c) (nI f) tt oo oc op ns ha fa pl lo ce la) ∧ (¬ nI (O p) = 12 → wX_follow_79 post (nI p) (nI (O p)) (nI g) (nI c) (nI f) tt oo oc op ns ha fa pl lo ce la)))) → wpX_follow post (nI c, nI f, tt, oo, oc, op, ns, ha, fa, pl, lo, ce, la) (nI p) (nI h) := by
        intro post H
        exact ⟨vq, nm_r eo (sc_xgrowth h14 (nm_r ex (sc_xneed h14 (br_t (nI_le (by omega) (by omega)) (br_t l6 H)))))⟩
      have ct : sc_ct O ns c p h = if sc_far O ns c p then 4 else 0 := by
        unfold sc_ct
        rw [if_neg a, if_neg b]
      have i11 : nI (O p) = 11 ↔ O p = 11 := nI_eq (b := 11) (by omega) (by decide)
      have i12 : nI (O p) = 12 ↔ O p = 12 := nI_eq (b := 12) (by omega) (by decide)
      have i13 : nI (O p) = 13 ↔ O p = 13 := nI_eq (b := 13) (by omega) (by decide)
      have e1 : nI p + 1 = nI (p + 1) := nI_1 p
      have in1 := sc_ins1 hc (q := p + 1) (by omega)
      by_cases o13 : O p = 13
      · refine ⟨W, F, f, ha, fa, pl, K, ⟨Nat.le_refl f, fun _ _ => rfl, fun q g _ _ => ⟨Or.inl, fun s => s.elim id (fun s => ?_)⟩, ?_⟩, fun post hp' => lead ?_⟩
        · obtain ⟨_, _, _, _, s | s⟩ := s <;> omega
        · rw [ct, if_neg (by intro s; rcases s with s | s <;> omega), sc_fs_0]
        · exact br_f (by rw [i11]; omega) (br_f (by rw [i12]; omega) (br_f (by rw [i12]; omega) (br_t (by rw [i13]; omega) hp')))
      · by_cases o12 : O p = 12
        · obtain ⟨W', F', f', ha', fa', pl', K', l, pre, bits, eF, wp⟩ := sc_xgo (tt := tt) (oo := oo) (oc := oc) (op := op) (ns := ns) (lo := lo) (ce := ce) (la := la) K hc hp2 hg (ns p)
          refine ⟨W', F', f', ha', fa', pl', K', ⟨l, pre, fun q g' hq hg' => ?_, ?_⟩, fun post hp' => lead ?_⟩
          · rw [bits q g' hq hg']
            constructor
            · intro s
              rcases s with s | ⟨s0, s1, s2⟩
              · exact Or.inl s
              · exact Or.inr ⟨by omega, by omega, by omega, s0, Or.inr ⟨Or.inr o12, s1⟩⟩
            · intro s
              rcases s with s | ⟨_, _, s2, s0, s | s⟩
              · exact Or.inl s
              · omega
              · exact Or.inr ⟨s0, s.2, by omega⟩
          · rw [eF, ct]
            by_cases i : 0 ≤ ns p ∧ ns p < nI c
            · rw [if_pos i, if_neg (by intro s; rcases s with s | s; omega; exact s.2 i)]
            · rw [if_neg i, if_pos (Or.inr ⟨Or.inr o12, i⟩)]
          · refine br_f (by rw [i11]; omega) (br_t (i12.mpr o12) ⟨vq, ?_⟩)
            rw [en]
            exact wp _ (br_t (i12.mpr o12) hp')
        · by_cases o11 : O p = 11
          · obtain ⟨W1, F1, f1, ha1, fa1, pl1, K1, l1, pre1, bits1, eF1, wp1⟩ := sc_xgo (tt := tt) (oo := oo) (oc := oc) (op := op) (ns := ns) (lo := lo) (ce := ce) (la := la) K hc hp2 hg (ns p)
            obtain ⟨W2, F2, f2, ha2, fa2, pl2, K2, l2, pre2, bits2, eF2, wp2⟩ := sc_xgo (tt := tt) (oo := oo) (oc := oc) (op := op) (ns := ns) (lo := lo) (ce := ce) (la := la) K1 hc hp2 hg (nI (p + 1))
            refine ⟨W2, F2, f2, ha2, fa2, pl2, K2, ⟨by omega, fun j hj => (pre2 j (by omega)).trans (pre1 j hj), fun q g' hq hg' => ?_, ?_⟩, fun post hp' => lead ?_⟩
            · rw [bits2 q g' hq hg', bits1 q g' hq hg']
              constructor
              · intro s
                rcases s with (s | ⟨s0, s1, s2⟩) | ⟨s0, s1, s2⟩
                · exact Or.inl s
                · exact Or.inr ⟨by omega, by omega, by omega, s0, Or.inr ⟨Or.inl o11, s1⟩⟩
                · rw [nI_eq (by omega) (by omega)] at s1
                  exact Or.inr ⟨by omega, by omega, by omega, s0, Or.inl ⟨by omega, s1.symm⟩⟩
              · intro s
                rcases s with s | ⟨_, _, s2, s0, s | s⟩
                · exact Or.inl (Or.inl s)
                · exact Or.inr ⟨s0, by rw [s.2], by omega⟩
                · exact Or.inl (Or.inr ⟨s0, s.2, by omega⟩)
            · rw [eF2, eF1, sc_fs_2, ct]
              by_cases i : 0 ≤ ns p ∧ ns p < nI c
              · by_cases j : p + 1 < c
                · rw [if_pos i, if_pos (in1.mpr j), if_neg (by intro s; rcases s with s | s; omega; exact s.2 i)]
                  rfl
                · rw [if_pos i, if_neg (fun z => j (in1.mp z)), if_pos (Or.inl ⟨by omega, j⟩)]
                  rfl
              · by_cases j : p + 1 < c
                · rw [if_neg i, if_pos (in1.mpr j), if_pos (Or.inr ⟨Or.inl o11, i⟩)]
                  rfl
                · rw [if_neg i, if_neg (fun z => j (in1.mp z)), if_pos (Or.inl ⟨by omega, j⟩)]
                  rfl
            · refine br_t (i11.mpr o11) ⟨vq, ?_⟩
              rw [en]
              refine wp1 _ (br_f (by rw [i12]; omega) (br_f (by rw [i13]; omega) ?_))
              rw [e1]
              exact wp2 _ hp'
          · obtain ⟨W', F', f', ha', fa', pl', K', l, pre, bits, eF, wp⟩ := sc_xgo (tt := tt) (oo := oo) (oc := oc) (op := op) (ns := ns) (lo := lo) (ce := ce) (la := la) K hc hp2 hg (nI (p + 1))
            refine ⟨W', F', f', ha', fa', pl', K', ⟨l, pre, fun q g' hq hg' => ?_, ?_⟩, fun post hp' => lead ?_⟩
            · rw [bits q g' hq hg']
              constructor
              · intro s
                rcases s with s | ⟨s0, s1, s2⟩
                · exact Or.inl s
                · rw [nI_eq (by omega) (by omega)] at s1
                  exact Or.inr ⟨by omega, by omega, by omega, s0, Or.inl ⟨by omega, s1.symm⟩⟩
              · intro s
                rcases s with s | ⟨_, _, s2, s0, s | s⟩
                · exact Or.inl s
                · exact Or.inr ⟨s0, by rw [s.2], by omega⟩
                · omega
            · rw [eF, ct]
              by_cases j : p + 1 < c
              · rw [if_pos (in1.mpr j), if_neg (by intro s; rcases s with s | s <;> omega)]
              · rw [if_neg (fun z => j (in1.mp z)), if_pos (Or.inl ⟨by omega, j⟩)]
            · refine br_f (by rw [i11]; omega) (br_f (by rw [i12]; omega) (br_f (by rw [i12]; omega) (br_f (by rw [i13]; omega) ?_)))
              rw [e1]
              exact wp _ hp'
theorem sc_xj41 {O : Nat → Nat} (hc : c ≤ 20) (hO : ∀ p, p < c → op p = nI (O p) ∧ O p < 14) : ∀ (d i f : Nat) (W T : Nat → Nat) (ha fa pl : Nat → Int32), i + d = 140 → sc_L O ns c W T i f ha fa pl →
    ∃ (W' : Nat → Nat) (f' : Nat) (ha' fa' pl' : Nat → Int32), (sc_Pic O ns c W' ∧ ∀ p, p < c → ha' p = nI (W' p) ∧ fa' p = nI (sc_F O ns c W' p)) ∧
      ∀ post : SX → Prop, post (nI c, nI f', tt, oo, oc, op, ns, ha', fa', pl', lo, ce, la) → wX_judge_41 post (d + 1) (nI i) (nI c) (nI f) tt oo oc op ns ha fa pl lo ce la := by
  intro d
  induction d with
  | zero =>
    intro i f W T ha fa pl hi L
    have l1 := L.2.1
    have l2 := sc_K_le L.1
    have e : i = f := by omega
    subst e
    exact ⟨W, i, ha, fa, pl, sc_L_e O ns c hc L, fun post hp => br_t (nI_le (Nat.le_refl i) (by omega)) hp⟩
  | succ d ih =>
    intro i f W T ha fa pl hi L
    have l1 := L.2.1
    have l2 := sc_K_le L.1
    by_cases e : i = f
    · subst e
      exact ⟨W, i, ha, fa, pl, sc_L_e O ns c hc L, fun post hp => br_t (nI_le (Nat.le_refl i) (by omega)) hp⟩
    · have lt : i < f := by omega
      obtain ⟨p, h, hp, hh, ep, w⟩ := L.1.2.2.1 i lt
      obtain ⟨W1, F1, f1, ha1, fa1, pl1, K1, S1, wp1⟩ := sc_xfollow (tt := tt) (oo := oo) (oc := oc) (op := op) (ns := ns) (lo := lo) (ce := ce) (la := la) (O := O) L.1 hc hp hh (hO p hp).1 (hO p hp).2
      have L1 := sc_L_s O ns c hc L lt hp hh ep w K1 S1
      obtain ⟨W2, f2, ha2, fa2, pl2, R2, wp2⟩ := ih (i + 1) f1 W1 (sc_st T p h) ha1 fa1 pl1 (by omega) L1
      refine ⟨W2, f2, ha2, fa2, pl2, R2, fun post hp' => ?_⟩
      have vi : vp_in (nI i) 140 := vp_in_nI (by omega) (by omega)
      have ec : pl (nI i).toNatClampNeg = nI (p * 7 + h) := by rw [nI_clamp (by omega)]; exact ep
      have eh : pl (nI i).toNatClampNeg - pl (nI i).toNatClampNeg / 7 * 7 = nI h := by
        rw [ec, show (7 : Int32) = nI 7 from rfl, pk_rem (by omega) (by omega) (by omega)]
        exact congrArg nI (by omega)
      have eq : pl (nI i).toNatClampNeg / 7 = nI p := by
        rw [ec, show (7 : Int32) = nI 7 from rfl, pk_div (by omega) (by omega) (by omega)]
        exact congrArg nI (by omega)
      refine br_f (nI_ge lt (by omega)) (br_f (nI_ge (b := 140) (by omega) (by decide)) ⟨vi, by decide, vi, by decide, ?_⟩)
      rw [eh, eq]
      exact wp1 _ (nm_r (nI_1 i) (wp2 post hp'))
theorem sc_xj2 {O : Nat → Nat} (h0 : 0 < c) (hc : c ≤ 20) (hO : ∀ p, p < c → op p = nI (O p) ∧ O p < 14) : ∀ (d i : Nat) (ha fa : Nat → Int32), i + d = 20 → (∀ p, p < i → ha p = 0 ∧ fa p = 0) →
    ∃ (W' : Nat → Nat) (f' : Nat) (ha' fa' pl' : Nat → Int32), (sc_Pic O ns c W' ∧ ∀ p, p < c → ha' p = nI (W' p) ∧ fa' p = nI (sc_F O ns c W' p)) ∧
      ∀ post : SX → Prop, post (nI c, nI f', tt, oo, oc, op, ns, ha', fa', pl', lo, ce, la) → wX_judge_2 post (nI c) pf tt oo oc (d + 1) (nI i) op ns ha fa pl lo ce la := by
  intro d
  induction d with
  | zero =>
    intro i ha fa hi z
    have K0 : sc_K c (fun _ => 0) (fun _ => 0) 0 ha fa pl := by
      refine ⟨fun p hp => ⟨(by decide : 0 < 128), (by decide : 0 < 8), (z p (by omega)).1, ?_⟩, (sc_ca_0 (fun _ _ => rfl) 20 (by omega)).symm, fun j hj => absurd hj (by omega), fun p h _ _ b => ?_⟩
      · rw [(z p (by omega)).2]
        exact (by decide +kernel : (0 : Int32) = nI (0 ||| sc_mx 0))
      · simp at b
    obtain ⟨W1, f1, ha1, fa1, pl1, K1, l1, pre1, bits1, wp1⟩ := sc_xcome (tt := tt) (oo := oo) (oc := oc) (op := op) (ns := ns) (lo := lo) (ce := ce) (la := la) K0 hc h0 (g := 0) (by omega)
    have L1 : sc_L O ns c W1 (fun _ => 0) 0 f1 ha1 fa1 pl1 := by
      refine ⟨sc_K_F K1 (fun p hp => (sc_fo_z _ 7).symm), by omega, fun _ _ => (by decide : 0 < 128), (bits1 0 0 (by omega) (by omega)).mpr (Or.inr ⟨rfl, rfl⟩), fun p h hp hh b => ?_, fun p h hp hh => ⟨fun b => by simp at b, fun ⟨j, hj, _⟩ => absurd hj (by omega)⟩, fun p h q g _ _ b => by simp at b⟩
      rcases (bits1 p h hp hh).mp b with s | ⟨s1, s2⟩
      · simp at s
      · rw [s1, s2]
        exact sc_R0 O ns c
    obtain ⟨W2, f2, ha2, fa2, pl2, R2, wp2⟩ := sc_xj41 (tt := tt) (oo := oo) (oc := oc) (lo := lo) (ce := ce) (la := la) hc hO 140 0 f1 W1 (fun _ => 0) ha1 fa1 pl1 (by omega) L1
    refine ⟨W2, f2, ha2, fa2, pl2, R2, fun post hp => br_t (nI_le (a := 20) (by omega) (by omega)) ?_⟩
    exact wp1 _ ⟨_, wp2 post hp⟩
  | succ d ih =>
    intro i ha fa hi z
    have vi : vp_in (nI i) 20 := vp_in_nI (by omega) (by omega)
    obtain ⟨W2, f2, ha2, fa2, pl2, R2, wp2⟩ := ih (i + 1) (upd ha i 0) (upd fa i 0) (by omega) (by
      intro p hp
      by_cases e : p = i
      · rw [e, pk_us, pk_us]; exact ⟨rfl, rfl⟩
      · rw [pk_un e, pk_un e]; exact z p (by omega))
    refine ⟨W2, f2, ha2, fa2, pl2, R2, fun post hp => br_f (nI_ge (b := 20) (by omega) (by decide)) ⟨vi, nm_r ?_ ⟨vi, nm_r ?_ (nm_r (nI_1 i) (wp2 post hp))⟩⟩⟩
    · rw [nI_clamp (by omega)]
    · rw [nI_clamp (by omega)]
theorem sc_xjudge (h0 : 0 < c) (hc : c ≤ 20) (I : sc_I c op ns) :
    ∃ (f' : Nat) (ha' fa' pl' : Nat → Int32), sc_T c op ns ha' fa' ∧
      ∀ post : SX → Prop, post (nI c, nI f', tt, oo, oc, op, ns, ha', fa', pl', lo, ce, la) → wpX_judge post (nI c, pf, tt, oo, oc, op, ns, ha, fa, pl, lo, ce, la) := by
  obtain ⟨W, f', ha', fa', pl', R, wp⟩ := sc_xj2 (pf := pf) (tt := tt) (oo := oo) (oc := oc) (ns := ns) (pl := pl) (lo := lo) (ce := ce) (la := la) (O := sc_o op) h0 hc (fun p hp => ⟨(I p hp).1, (I p hp).2.1⟩) 20 0 ha fa (by omega) (fun p hp => absurd hp (by omega))
  exact ⟨f', ha', fa', pl', ⟨W, R⟩, fun post hp => ⟨_, wp post hp⟩⟩
theorem sc_xfg (cc : Int32) (post : SX → Prop) : ∀ (d i : Nat) (lo lo' : Nat → Int32), i + d = 4 → (∀ j, lo' j = if i ≤ j ∧ j < 4 then 0 else lo j) → post (cc, pf, tt, oo, oc, op, ns, ha, fa, pl, lo', ce, la) →
    wX_forgetRun_17 post cc pf tt oo oc (d + 1) (nI i) op ns ha fa pl lo ce la := by
  intro d
  induction d with
  | zero =>
    intro i lo lo' hi e hp
    have : lo' = lo := by
      funext j
      rw [e j, if_neg (by omega)]
    rw [this] at hp
    exact br_t (nI_le (a := 4) (by omega) (by omega)) hp
  | succ d ih =>
    intro i lo lo' hi e hp
    have vi : vp_in (nI i) 4 := vp_in_nI (by omega) (by omega)
    have r := ih (i + 1) (upd lo i 0) lo' (by omega) (by
      intro j
      rw [e j]
      by_cases z : j = i
      · rw [z, pk_us, if_pos (by omega), if_neg (by omega)]
      · rw [pk_un z]
        by_cases y : i ≤ j ∧ j < 4
        · rw [if_pos y, if_pos (by omega)]
        · rw [if_neg y, if_neg (by omega)]) hp
    refine br_f (nI_ge (b := 4) (by omega) (by decide)) ⟨vi, nm_r ?_ (nm_r (nI_1 i) r)⟩
    rw [nI_clamp (by omega)]
/-- the locals when they are forgotten -/
def sc_l0 (lo : Nat → Int32) : Nat → Int32 := fun j => if j < 4 then 0 else lo j
theorem sc_xforget (cc : Int32) {post : SX → Prop} (h : post (cc, pf, 0, 0, 0, op, ns, ha, fa, pl, sc_l0 lo, ce, la)) : wpX_forgetRun post (cc, pf, tt, oo, oc, op, ns, ha, fa, pl, lo, ce, la) := by
  refine ⟨5, sc_xfg cc post 4 0 lo (sc_l0 lo) rfl (fun j => ?_) h⟩
  unfold sc_l0
  by_cases y : j < 4
  · rw [if_pos y, if_pos ⟨by omega, y⟩]
  · rw [if_neg y, if_neg (by omega)]
end
end
section
/-! the reference's methods that judge a program, each with a general post -/
theorem sc_gr_1 : ∀ o, o < 14 → (1 ≤ sc_gr o ↔ sc_rs o = 2) := by decide +kernel
theorem sc_d01 {d : Nat} (h : d ≤ 1) : d = 0 ∨ d = 1 := by omega
section
variable {c : Nat} {oc aa tn tt oo : Int32} {op ns co ce ly ls : Nat → Int32}
theorem sc_yin1 {post : Int32 → Prop} {q : Nat} (hc : c ≤ 20) (hq : q < c) (h : post 1) : wpY_inside post (nI c, oc, aa, tn, tt, oo, op, ns, co, ce, ly, ls) (nI q) :=
  br_f (nI_pos (by omega)) (br_f (nI_ge hq (by omega)) h)
theorem sc_yin0 {post : Int32 → Prop} {x : Int32} (hx : ¬ (0 ≤ x ∧ x < nI c)) (h : post 0) : wpY_inside post (nI c, oc, aa, tn, tt, oo, op, ns, co, ce, ly, ls) x := by
  by_cases a : x < 0
  · exact br_t a h
  · exact br_f a (br_t (Decidable.byContradiction fun n => hx ⟨Int32.not_lt.mp a, Int32.not_le.mp n⟩) h)
theorem sc_yrise {post : Int32 → Prop} {o : Nat} (ho : o < 14) (h : post (sc_gr o)) : wpY_rise post (nI c, oc, aa, tn, tt, oo, op, ns, co, ce, ly, ls) (nI o) := by
  rcases sc_14 ho with rfl | rfl | rfl | rfl | rfl | rfl | rfl | rfl | rfl | rfl | rfl | rfl | rfl | rfl <;>
    (unfold wpY_rise; dsimp only; repeat (first | exact h | refine br_t (by decide) ?_ | refine br_f (by decide) ?_))
theorem sc_yneed {post : Int32 → Prop} {o : Nat} (ho : o < 14) (h : post (nI (sc_nd o))) : wpY_need post (nI c, oc, aa, tn, tt, oo, op, ns, co, ce, ly, ls) (nI o) := by
  rcases sc_14 ho with rfl | rfl | rfl | rfl | rfl | rfl | rfl | rfl | rfl | rfl | rfl | rfl | rfl | rfl <;>
    (unfold wpY_need; dsimp only; unfold wY_need_19; repeat (first | exact h | refine br_t (by decide) ?_ | refine br_f (by decide) ?_))
theorem sc_ycan1 {post : Int32 → Prop} {p h o : Nat} (hp : p < 20) (eo : op p = nI o) (ho : o < 14) (hh : h < 7) (a : sc_nd o ≤ h) (b : h + sc_rs o ≤ 7) (H : post 1) : wpY_can post (nI c, oc, aa, tn, tt, oo, op, ns, co, ce, ly, ls) (nI p) (nI h) := by
  have vq : vp_in (nI p) 20 := vp_in_nI hp (by omega)
  have e : op (nI p).toNatClampNeg = nI o := by rw [nI_clamp (by omega)]; exact eo
  refine ⟨vq, ?_⟩
  rw [e]
  refine sc_yneed ho (br_f (nI_nlt a (by omega)) ?_)
  by_cases z : h < 6
  · exact br_t (nI_lt (b := 6) z (by decide)) H
  · refine br_f (nI_nlt (b := 6) (by omega) (by omega)) ⟨vq, sc_yrise ho (br_f ?_ H)⟩
    rw [sc_gr_1 o ho]
    omega
theorem sc_ycan0 {post : Int32 → Prop} {p h o : Nat} (hp : p < 20) (eo : op p = nI o) (ho : o < 14) (hh : h < 7) (a : ¬ (sc_nd o ≤ h ∧ h + sc_rs o ≤ 7)) (H : post 0) : wpY_can post (nI c, oc, aa, tn, tt, oo, op, ns, co, ce, ly, ls) (nI p) (nI h) := by
  have vq : vp_in (nI p) 20 := vp_in_nI hp (by omega)
  have e : op (nI p).toNatClampNeg = nI o := by rw [nI_clamp (by omega)]; exact eo
  have n2 := sc_nd2 o
  have r2 := sc_rs2 o
  refine ⟨vq, ?_⟩
  rw [e]
  refine sc_yneed ho ?_
  by_cases z : h < sc_nd o
  · exact br_t (nI_lt z (by omega)) H
  · refine br_f (nI_nlt (by omega) (by omega)) (br_f (nI_nlt (b := 6) (by omega) (by omega)) ⟨vq, sc_yrise ho (br_t ?_ H)⟩)
    rw [sc_gr_1 o ho]
    omega
theorem sc_yreach {W : Nat → Nat} {g : Nat} (Y : sc_Y W co) (hc : c ≤ 20) (hg : g < 7) (x : Int32) :
    ∃ (W' : Nat → Nat) (co' : Nat → Int32) (d : Nat), sc_Y W' co' ∧ sc_Q W W' d (fun q h => q < c ∧ x = nI q ∧ h = g) ∧
      ∀ post : Int32 → SY → Prop, post (nI d) (nI c, oc, aa, tn, tt, oo, op, ns, co', ce, ly, ls) → wpY_reach post (nI c, oc, aa, tn, tt, oo, op, ns, co, ce, ly, ls) x (nI g) := by
  by_cases i : 0 ≤ x ∧ x < nI c
  · obtain ⟨q, hq, rfl⟩ := (sc_ins c hc x).mp i
    have hq2 : q < 20 := by omega
    have kq := Y q hq2
    have vq : vp_in (nI q) 20 := vp_in_nI hq2 (by omega)
    have eq : co (nI q).toNatClampNeg = nI (W q) := by rw [nI_clamp (by omega)]; exact kq.2
    have t1 := sc_t1 (W q) kq.1 g hg
    by_cases z : (W q).testBit g = true
    · refine ⟨W, co, 0, Y, sc_Q_0 (fun q' g' _ _ s => ?_), fun post hp => ?_⟩
      · have s1 := s.2.1
        rw [nI_eq (by omega) (by omega)] at s1
        rw [← s1, s.2.2]
        exact z
      · unfold wpY_reach
        dsimp only
        exact sc_yin1 hc hq (br_f (by decide) ⟨vq, br_t (by rw [eq]; exact t1.mpr z) hp⟩)
    · refine ⟨sc_st W q g, _, 1, sc_Y_new Y hq2 hg, sc_Q_1 hq2 hg z (fun q' g' hq' _ => ⟨fun s => ?_, fun s => ⟨by omega, by rw [s.1], s.2⟩⟩), fun post hp => ?_⟩
      · have s1 := s.2.1
        rw [nI_eq (by omega) (by omega)] at s1
        exact ⟨s1.symm, s.2.2⟩
      · have u : upd co (nI q).toNatClampNeg (co (nI q).toNatClampNeg ||| ((1 : Int32) <<< (nI g &&& 31))) = upd co q (nI (W q ||| 2 ^ g)) := by
          rw [eq, sc_t3 g hg, sc_or, nI_clamp (by omega)]
        unfold wpY_reach
        dsimp only
        exact sc_yin1 hc hq (br_f (by decide) ⟨vq, br_f (by rw [eq, t1]; exact z) ⟨vq, vq, nm_r u hp⟩⟩)
  · refine ⟨W, co, 0, Y, sc_Q_0 (fun q' g' _ _ s => absurd ((sc_ins c hc x).mpr ⟨q', s.1, s.2.1⟩) i), fun post hp => ?_⟩
    unfold wpY_reach
    dsimp only
    exact sc_yin0 i (br_t rfl hp)
theorem sc_y198 {post : SY → Prop} {J40 J55 : Int32 → Int32 → Int32 → Int32 → Int32 → Int32 → Int32 → Int32 → (Nat → Int32) → (Nat → Int32) → (Nat → Int32) → (Nat → Int32) → (Nat → Int32) → (Nat → Int32) → Prop}
    {b d1 d2 e : Nat} {x2 : Int32} (hb : b ≤ 1) (h1 : d1 ≤ 1) (h2 : d2 ≤ 1)
    (H : J55 (nI (if b = 0 then if d1 = 0 then d2 else 1 else 1)) (nI (e + 1)) (nI c) oc aa tn tt oo op ns co ce ly ls) :
    wY_follow_198 post J40 J55 (nI b) x2 (nI e) (nI d1) (nI d2) (nI c) oc aa tn tt oo op ns co ce ly ls := by
  rcases sc_d01 hb with rfl | rfl
  · rcases sc_d01 h1 with rfl | rfl
    · rcases sc_d01 h2 with rfl | rfl
      · exact br_t rfl (br_t rfl (br_t rfl (nm_r (nI_1 e) H)))
      · exact br_t rfl (br_t rfl (br_f (by decide) (nm_r (nI_1 e) H)))
    · exact br_t rfl (br_f (by decide) (nm_r (nI_1 e) H))
  · exact br_f (by decide) (nm_r (nI_1 e) H)
theorem sc_y151a {post : SY → Prop} {J40 J55 : Int32 → Int32 → Int32 → Int32 → Int32 → Int32 → Int32 → Int32 → (Nat → Int32) → (Nat → Int32) → (Nat → Int32) → (Nat → Int32) → (Nat → Int32) → (Nat → Int32) → Prop}
    {b d1 d2 e p g o : Nat} {co' : Nat → Int32} {x2 : Int32} (hb : b ≤ 1) (h1 : d1 ≤ 1) (h2 : d2 ≤ 1) (hp : p < 20) (eo : op p = nI o) (ho : o = 11 ∨ o = 12)
    (wp : ∀ post : Int32 → SY → Prop, post (nI d2) (nI c, oc, aa, tn, tt, oo, op, ns, co', ce, ly, ls) → wpY_reach post (nI c, oc, aa, tn, tt, oo, op, ns, co, ce, ly, ls) (ns p) (nI g))
    (H : J55 (nI (if b = 0 then if d1 = 0 then d2 else 1 else 1)) (nI (e + 1)) (nI c) oc aa tn tt oo op ns co' ce ly ls) :
    wY_follow_151 post J40 J55 (nI b) x2 (nI e) (nI p) (nI g) (nI d1) (nI c) oc aa tn tt oo op ns co ce ly ls := by
  have vq : vp_in (nI p) 20 := vp_in_nI hp (by omega)
  have e1 : op (nI p).toNatClampNeg = nI o := by rw [nI_clamp (by omega)]; exact eo
  have en : ns (nI p).toNatClampNeg = ns p := by rw [nI_clamp (by omega)]
  have H2 := sc_y198 (post := post) (J40 := J40) (x2 := x2) hb h1 h2 H
  have f : wY_follow_177 post J40 J55 (nI b) x2 (nI e) (nI p) (nI g) (nI d1) (nI c) oc aa tn tt oo op ns co ce ly ls := by
    refine ⟨vq, ?_⟩
    rw [en]
    refine wp _ ?_
    rcases sc_d01 h2 with rfl | rfl
    · exact br_t rfl H2
    · exact br_f (by decide) H2
  rcases ho with rfl | rfl
  · exact ⟨vq, br_t (by rw [e1]; rfl) f⟩
  · exact ⟨vq, br_f (by rw [e1]; decide) ⟨vq, br_t (by rw [e1]; rfl) f⟩⟩
theorem sc_y151b {post : SY → Prop} {J40 J55 : Int32 → Int32 → Int32 → Int32 → Int32 → Int32 → Int32 → Int32 → (Nat → Int32) → (Nat → Int32) → (Nat → Int32) → (Nat → Int32) → (Nat → Int32) → (Nat → Int32) → Prop}
    {b d1 e p g o : Nat} {x2 : Int32} (hb : b ≤ 1) (h1 : d1 ≤ 1) (hp : p < 20) (eo : op p = nI o) (h14 : o < 14) (ho : ¬ (o = 11 ∨ o = 12))
    (H : J55 (nI (if b = 0 then d1 else 1)) (nI (e + 1)) (nI c) oc aa tn tt oo op ns co ce ly ls) :
    wY_follow_151 post J40 J55 (nI b) x2 (nI e) (nI p) (nI g) (nI d1) (nI c) oc aa tn tt oo op ns co ce ly ls := by
  have vq : vp_in (nI p) 20 := vp_in_nI hp (by omega)
  have e1 : op (nI p).toNatClampNeg = nI o := by rw [nI_clamp (by omega)]; exact eo
  have H2 : wY_follow_198 post J40 J55 (nI b) x2 (nI e) (nI d1) (nI 0) (nI c) oc aa tn tt oo op ns co ce ly ls := by
    refine sc_y198 hb h1 (by omega) ?_
    rcases sc_d01 h1 with rfl | rfl
    · exact H
    · exact H
  exact ⟨vq, br_f (by rw [e1]; exact fun z => ho (Or.inl ((nI_eq (b := 11) (by omega) (by decide)).mp z))) ⟨vq, br_f (by rw [e1]; exact fun z => ho (Or.inr ((nI_eq (b := 12) (by omega) (by decide)).mp z))) H2⟩⟩
end
end
section
/-! the reference: one place, one pass, all passes -/
section
variable {c : Nat} {oc aa tn tt oo : Int32} {op ns co ce ly ls : Nat → Int32}
theorem sc_ystep {O : Nat → Nat} {K : Nat} {W : Nat → Nat} {b p h : Nat} (V : sc_V O ns c K W b (p * 7 + h) co) (hc : c ≤ 20) (hp : p < c) (hh : h < 7) (hO : op p = nI (O p)) (h14 : O p < 14) :
    ∃ (W' : Nat → Nat) (b' : Nat) (co' : Nat → Int32), sc_V O ns c K W' b' (p * 7 + h + 1) co' ∧
      ∀ (post : SY → Prop) (J40 : Int32 → Int32 → Int32 → Int32 → Int32 → Int32 → Int32 → Int32 → (Nat → Int32) → (Nat → Int32) → (Nat → Int32) → (Nat → Int32) → (Nat → Int32) → (Nat → Int32) → Prop) (x2 : Int32) (n : Nat),
        wY_follow_55 post J40 x2 n (nI b') (nI (p * 7 + h + 1)) (nI c) oc aa tn tt oo op ns co' ce ly ls →
        wY_follow_55 post J40 x2 (n + 1) (nI b) (nI (p * 7 + h)) (nI c) oc aa tn tt oo op ns co ce ly ls := by
  have hp2 : p < 20 := by omega
  have Y := V.1
  have hb := V.2.1
  have kq := Y p hp2
  have vq : vp_in (nI p) 20 := vp_in_nI hp2 (by omega)
  have eo : op (nI p).toNatClampNeg = nI (O p) := by rw [nI_clamp (by omega)]; exact hO
  have ec : co (nI p).toNatClampNeg = nI (W p) := by rw [nI_clamp (by omega)]; exact kq.2
  have t1 := sc_t1 (W p) kq.1 h hh
  have e7 : (7 : Int32) * nI c = nI (7 * c) := pk_mul 7 c
  have nle : ¬ (7 : Int32) * nI c ≤ nI (p * 7 + h) := by
    rw [e7]
    exact nI_ge (by omega) (by omega)
  have ep : nI (p * 7 + h) / 7 = nI p := by
    rw [show (7 : Int32) = nI 7 from rfl, pk_div (by omega) (by omega) (by omega)]
    exact congrArg nI (by omega)
  have eh : nI (p * 7 + h) - nI (p * 7 + h) / 7 * 7 = nI h := by
    rw [show (7 : Int32) = nI 7 from rfl, pk_rem (by omega) (by omega) (by omega)]
    exact congrArg nI (by omega)
  by_cases z : (W p).testBit h = true
  · have tb : (co (nI p).toNatClampNeg >>> (nI h &&& 31)) &&& 1 = 1 := by rw [ec]; exact t1.mpr z
    by_cases can : sc_nd (O p) ≤ h ∧ h + sc_rs (O p) ≤ 7
    · have nr := sc_ndrs (O p) h14
      obtain ⟨g, eg⟩ : ∃ g, g + 1 = h + sc_rs (O p) := ⟨h + sc_rs (O p) - 1, by omega⟩
      have ex := sc_gr_a h14 eg
      have hg : g < 7 := by omega
      have e1 : nI p + 1 = nI (p + 1) := nI_1 p
      by_cases o12 : O p < 12
      · obtain ⟨W1, co1, d1, Y1, Q1, wp1⟩ := sc_yreach (oc := oc) (aa := aa) (tn := tn) (tt := tt) (oo := oo) (op := op) (ns := ns) (ce := ce) (ly := ly) (ls := ls) Y hc hg (nI (p + 1))
        have h1 := Q1.1
        by_cases o11 : O p = 11
        · obtain ⟨W2, co2, d2, Y2, Q2, wp2⟩ := sc_yreach (oc := oc) (aa := aa) (tn := tn) (tt := tt) (oo := oo) (op := op) (ns := ns) (ce := ce) (ly := ly) (ls := ls) Y1 hc hg (ns p)
          have h2 := Q2.1
          have Q : sc_Q W W2 (if d1 = 0 then d2 else 1) (fun q g => sc_E O ns c p h q g) := by
            refine sc_Q_c Q1 Q2 (fun q g' hq hg' => ⟨fun s => ?_, fun s => ?_⟩)
            · obtain ⟨_, _, s2, s0, s | s⟩ := s
              · exact Or.inl ⟨s0, by rw [s.2], by omega⟩
              · exact Or.inr ⟨s0, s.2, by omega⟩
            · rcases s with ⟨s0, s1, s2⟩ | ⟨s0, s1, s2⟩
              · rw [nI_eq (by omega) (by omega)] at s1
                exact ⟨by omega, by omega, by omega, s0, Or.inl ⟨by omega, s1.symm⟩⟩
              · exact ⟨by omega, by omega, by omega, s0, Or.inr ⟨Or.inl o11, s1⟩⟩
          refine ⟨W2, _, co2, sc_V_s O ns c hc V hp hh z Q Y2, fun post J40 x2 n H => ?_⟩
          refine br_f nle ⟨by decide, nm_r ep ⟨by decide, nm_r eh ⟨vq, br_t tb (sc_ycan1 hp2 hO h14 hh can.1 can.2 (br_f (by decide) ⟨vq, ?_⟩))⟩⟩⟩
          rw [eo]
          refine sc_yrise h14 (nm_r ex ⟨vq, br_f (nI_ge (b := 12) o12 (by decide)) ?_⟩)
          rw [e1]
          refine wp1 _ ?_
          have F := sc_y151a (post := post) (J40 := J40) (J55 := wY_follow_55 post J40 x2 n) (x2 := x2) hb h1 h2 hp2 hO (Or.inl o11) wp2 H
          rcases sc_d01 h1 with rfl | rfl
          · exact br_t rfl F
          · exact br_f (by decide) F
        · have Q : sc_Q W W1 d1 (fun q g => sc_E O ns c p h q g) := by
            refine ⟨Q1.1, Q1.2.1, Q1.2.2.1, fun q g' hq hg' => ?_⟩
            rw [Q1.2.2.2 q g' hq hg']
            constructor
            · intro s
              rcases s with s | ⟨s0, s1, s2⟩
              · exact Or.inl s
              · rw [nI_eq (by omega) (by omega)] at s1
                exact Or.inr ⟨by omega, by omega, by omega, s0, Or.inl ⟨by omega, s1.symm⟩⟩
            · intro s
              rcases s with s | ⟨_, _, s2, s0, s | s⟩
              · exact Or.inl s
              · exact Or.inr ⟨s0, by rw [s.2], by omega⟩
              · omega
          refine ⟨W1, _, co1, sc_V_s O ns c hc V hp hh z Q Y1, fun post J40 x2 n H => ?_⟩
          refine br_f nle ⟨by decide, nm_r ep ⟨by decide, nm_r eh ⟨vq, br_t tb (sc_ycan1 hp2 hO h14 hh can.1 can.2 (br_f (by decide) ⟨vq, ?_⟩))⟩⟩⟩
          rw [eo]
          refine sc_yrise h14 (nm_r ex ⟨vq, br_f (nI_ge (b := 12) o12 (by decide)) ?_⟩)
          rw [e1]
          refine wp1 _ ?_
          have F := sc_y151b (post := post) (J40 := J40) (J55 := wY_follow_55 post J40 x2 n) (x2 := x2) (g := g) hb h1 hp2 hO h14 (by omega) H
          rcases sc_d01 h1 with rfl | rfl
          · exact br_t rfl F
          · exact br_f (by decide) F
      · by_cases o13 : O p = 13
        · have Q : sc_Q W W 0 (fun q g => sc_E O ns c p h q g) := by
            refine sc_Q_0 (fun q g' _ _ s => ?_)
            obtain ⟨_, _, _, _, s | s⟩ := s <;> omega
          refine ⟨W, _, co, sc_V_s O ns c hc V hp hh z Q Y, fun post J40 x2 n H => ?_⟩
          refine br_f nle ⟨by decide, nm_r ep ⟨by decide, nm_r eh ⟨vq, br_t tb (sc_ycan1 hp2 hO h14 hh can.1 can.2 (br_f (by decide) ⟨vq, ?_⟩))⟩⟩⟩
          rw [eo]
          refine sc_yrise h14 (nm_r ex ⟨vq, br_t (nI_le (a := 12) (by omega) (by omega)) ?_⟩)
          exact sc_y151b (post := post) (J40 := J40) (J55 := wY_follow_55 post J40 x2 n) (x2 := x2) (g := g) (d1 := 0) hb (by omega) hp2 hO h14 (by omega) H
        · have o12' : O p = 12 := by omega
          obtain ⟨W2, co2, d2, Y2, Q2, wp2⟩ := sc_yreach (oc := oc) (aa := aa) (tn := tn) (tt := tt) (oo := oo) (op := op) (ns := ns) (ce := ce) (ly := ly) (ls := ls) Y hc hg (ns p)
          have h2 := Q2.1
          have Q : sc_Q W W2 (if (0 : Nat) = 0 then d2 else 1) (fun q g => sc_E O ns c p h q g) := by
            rw [if_pos rfl]
            refine ⟨Q2.1, Q2.2.1, Q2.2.2.1, fun q g' hq hg' => ?_⟩
            rw [Q2.2.2.2 q g' hq hg']
            constructor
            · intro s
              rcases s with s | ⟨s0, s1, s2⟩
              · exact Or.inl s
              · exact Or.inr ⟨by omega, by omega, by omega, s0, Or.inr ⟨Or.inr o12', s1⟩⟩
            · intro s
              rcases s with s | ⟨_, _, s2, s0, s | s⟩
              · exact Or.inl s
              · omega
              · exact Or.inr ⟨s0, s.2, by omega⟩
          refine ⟨W2, _, co2, sc_V_s O ns c hc V hp hh z Q Y2, fun post J40 x2 n H => ?_⟩
          refine br_f nle ⟨by decide, nm_r ep ⟨by decide, nm_r eh ⟨vq, br_t tb (sc_ycan1 hp2 hO h14 hh can.1 can.2 (br_f (by decide) ⟨vq, ?_⟩))⟩⟩⟩
          rw [eo]
          refine sc_yrise h14 (nm_r ex ⟨vq, br_t (nI_le (a := 12) (by omega) (by omega)) ?_⟩)
          exact sc_y151a (post := post) (J40 := J40) (J55 := wY_follow_55 post J40 x2 n) (x2 := x2) (d1 := 0) hb (by omega) h2 hp2 hO (Or.inr o12') wp2 H
    · refine ⟨W, b, co, sc_V_n O ns c hc V hh (fun q g _ s => can ⟨s.1, s.2.1⟩), fun post J40 x2 n H => ?_⟩
      exact br_f nle ⟨by decide, nm_r ep ⟨by decide, nm_r eh ⟨vq, br_t tb (sc_ycan0 hp2 hO h14 hh can (br_t rfl (nm_r (nI_1 _) H)))⟩⟩⟩
  · have tb : ¬ (co (nI p).toNatClampNeg >>> (nI h &&& 31)) &&& 1 = 1 := by rw [ec, t1]; exact z
    refine ⟨W, b, co, sc_V_n O ns c hc V hh (fun q g s _ => z s), fun post J40 x2 n H => ?_⟩
    exact br_f nle ⟨by decide, nm_r ep ⟨by decide, nm_r eh ⟨vq, br_f tb (nm_r (nI_1 _) H)⟩⟩⟩
theorem sc_y55 {O : Nat → Nat} {K : Nat} (hc : c ≤ 20) (hO : ∀ p, p < c → op p = nI (O p) ∧ O p < 14) : ∀ (d e : Nat) (W : Nat → Nat) (b : Nat) (co : Nat → Int32), e + d = 7 * c → sc_V O ns c K W b e co →
    ∃ (W' : Nat → Nat) (b' : Nat) (co' : Nat → Int32), sc_V O ns c K W' b' (7 * c) co' ∧
      ∀ (post : SY → Prop) (J40 : Int32 → Int32 → Int32 → Int32 → Int32 → Int32 → Int32 → Int32 → (Nat → Int32) → (Nat → Int32) → (Nat → Int32) → (Nat → Int32) → (Nat → Int32) → (Nat → Int32) → Prop) (x2 : Int32),
        J40 (nI b') (x2 + 1) (nI c) oc aa tn tt oo op ns co' ce ly ls →
        wY_follow_55 post J40 x2 (d + 1) (nI b) (nI e) (nI c) oc aa tn tt oo op ns co ce ly ls := by
  intro d
  induction d with
  | zero =>
    intro e W b co he V
    have ee : e = 7 * c := by omega
    subst ee
    refine ⟨W, b, co, V, fun post J40 x2 H => br_t ?_ (nm_e H)⟩
    rw [show (7 : Int32) * nI c = nI (7 * c) from pk_mul 7 c]
    exact nI_le (Nat.le_refl _) (by omega)
  | succ d ih =>
    intro e W b co he V
    obtain ⟨p, h, hh, ee⟩ : ∃ p h, h < 7 ∧ e = p * 7 + h := ⟨e / 7, e % 7, by omega, by omega⟩
    subst ee
    have hp : p < c := by omega
    obtain ⟨W1, b1, co1, V1, wp1⟩ := sc_ystep (oc := oc) (aa := aa) (tn := tn) (tt := tt) (oo := oo) (ce := ce) (ly := ly) (ls := ls) V hc hp hh (hO p hp).1 (hO p hp).2
    obtain ⟨W2, b2, co2, V2, wp2⟩ := ih (p * 7 + h + 1) W1 b1 co1 (by omega) V1
    exact ⟨W2, b2, co2, V2, fun post J40 x2 H => wp1 post J40 x2 (d + 1) (wp2 post J40 x2 H)⟩
theorem sc_y40 {O : Nat → Nat} (hc : c ≤ 20) (hO : ∀ p, p < c → op p = nI (O p) ∧ O p < 14) : ∀ (d k : Nat) (W : Nat → Nat) (co : Nat → Int32), k + d = 141 → sc_V O ns c k W 0 0 co →
    ∃ (W' : Nat → Nat) (co' : Nat → Int32), (sc_Y W' co' ∧ sc_Pic O ns c W') ∧
      ∀ post : SY → Prop, post (nI c, oc, aa, tn, tt, oo, op, ns, co', ce, ly, ls) → wY_follow_40 post (d + 2) 1 (nI k) (nI c) oc aa tn tt oo op ns co ce ly ls := by
  intro d
  induction d with
  | zero =>
    intro k W co hk V
    have := sc_V_le O ns c V
    omega
  | succ d ih =>
    intro k W co hk V
    obtain ⟨W1, b1, co1, V1, wp1⟩ := sc_y55 (oc := oc) (aa := aa) (tn := tn) (tt := tt) (oo := oo) (ce := ce) (ly := ly) (ls := ls) hc hO (7 * c) 0 W 0 co (by omega) V
    have n1 : ¬ (141 : Int32) ≤ nI k := nI_ge (b := 141) (by omega) (by decide)
    rcases sc_d01 V1.2.1 with rfl | rfl
    · refine ⟨W1, co1, sc_V_e O ns c hc V1, fun post hp => br_f n1 (br_f (by decide) ⟨_, wp1 post _ _ ?_⟩)⟩
      exact br_c (fun _ => hp) (fun _ => br_t rfl hp)
    · obtain ⟨W2, co2, R2, wp2⟩ := ih (k + 1) W1 co1 (by omega) (sc_V_p O ns c V1)
      refine ⟨W2, co2, R2, fun post hp => br_f n1 (br_f (by decide) ⟨_, wp1 post _ _ ?_⟩)⟩
      rw [nI_1 k]
      exact wp2 post hp
theorem sc_b1 : ∀ h, h < 7 → (1 : Nat).testBit h = true → h = 0 := by decide
theorem sc_y2 {O : Nat → Nat} (hc : c ≤ 20) (hO : ∀ p, p < c → op p = nI (O p) ∧ O p < 14) : ∀ (d i : Nat) (co : Nat → Int32), i + d = 20 → (∀ p, p < i → co p = nI (if p = 0 ∧ 0 < c then 1 else 0)) →
    ∃ (W' : Nat → Nat) (co' : Nat → Int32), (sc_Y W' co' ∧ sc_Pic O ns c W') ∧
      ∀ post : SY → Prop, post (nI c, oc, aa, tn, tt, oo, op, ns, co', ce, ly, ls) → wY_follow_2 post (nI c) oc aa tn tt oo (d + 1) (nI i) op ns co ce ly ls := by
  intro d
  induction d with
  | zero =>
    intro i co hi z
    have V : sc_V O ns c 0 (fun p => if p = 0 ∧ 0 < c then 1 else 0) 0 0 co := by
      refine ⟨fun p hp => ⟨?_, z p (by omega)⟩, by omega, fun h0 => ?_, fun p h hp hh b => ?_, fun _ p h q g l => absurd l (by omega), Nat.zero_le _⟩
      · show (if p = 0 ∧ 0 < c then 1 else 0) < 128
        split <;> omega
      · show (if (0 : Nat) = 0 ∧ 0 < c then 1 else 0).testBit 0 = true
        rw [if_pos ⟨rfl, h0⟩]
        rfl
      · have b' : (if p = 0 ∧ 0 < c then 1 else 0).testBit h = true := b
        by_cases y : p = 0 ∧ 0 < c
        · rw [if_pos y] at b'
          rw [y.1, sc_b1 h hh b']
          exact sc_R0 O ns c
        · rw [if_neg y] at b'
          simp at b'
    obtain ⟨W', co', R, wp⟩ := sc_y40 (oc := oc) (aa := aa) (tn := tn) (tt := tt) (oo := oo) (ce := ce) (ly := ly) (ls := ls) hc hO 141 0 _ co (by omega) V
    exact ⟨W', co', R, fun post hp => br_t (nI_le (a := 20) (by omega) (by omega)) ⟨_, wp post hp⟩⟩
  | succ d ih =>
    intro i co hi z
    have vi : vp_in (nI i) 20 := vp_in_nI (by omega) (by omega)
    have n1 : ¬ (20 : Int32) ≤ nI i := nI_ge (b := 20) (by omega) (by decide)
    have ec : (nI i).toNatClampNeg = i := nI_clamp (by omega)
    obtain ⟨W', co', R, wp⟩ := ih (i + 1) (upd co i (nI (if i = 0 ∧ 0 < c then 1 else 0))) (by omega) (by
      intro p hp
      by_cases e : p = i
      · rw [e, pk_us]
      · rw [pk_un e]; exact z p (by omega))
    refine ⟨W', co', R, fun post hp => br_f n1 ?_⟩
    have H := wp post hp
    by_cases i0 : i = 0
    · have e0 : nI i = 0 := by rw [i0]; rfl
      refine br_t e0 ?_
      by_cases c0 : 0 < c
      · rw [if_pos ⟨i0, c0⟩] at H
        exact br_f (nI_nle c0 (by omega)) ⟨vi, nm_r (by rw [ec]; rfl) (nm_r (nI_1 i) H)⟩
      · rw [if_neg (fun y => c0 y.2)] at H
        have ez : nI c ≤ 0 := nI_le (b := 0) (by omega) (by decide)
        exact br_t ez ⟨vi, nm_r (by rw [ec]; rfl) (nm_r (nI_1 i) H)⟩
    · rw [if_neg (fun y => i0 y.1)] at H
      exact br_f (nI_ne0 (by omega) (by omega)) ⟨vi, nm_r (by rw [ec]; rfl) (nm_r (nI_1 i) H)⟩
theorem sc_yfollow (hc : c ≤ 20) (I : sc_I c op ns) :
    ∃ (W' : Nat → Nat) (co' : Nat → Int32), (sc_Y W' co' ∧ sc_Pic (sc_o op) ns c W') ∧
      ∀ post : SY → Prop, post (nI c, oc, aa, tn, tt, oo, op, ns, co', ce, ly, ls) → wpY_follow post (nI c, oc, aa, tn, tt, oo, op, ns, co, ce, ly, ls) := by
  obtain ⟨W', co', R, wp⟩ := sc_y2 (oc := oc) (aa := aa) (tn := tn) (tt := tt) (oo := oo) (ns := ns) (ce := ce) (ly := ly) (ls := ls) (O := sc_o op) hc (fun p hp => ⟨(I p hp).1, (I p hp).2.1⟩) 20 0 co (by omega) (fun p hp => absurd hp (by omega))
  exact ⟨W', co', R, fun post hp => ⟨_, wp post hp⟩⟩
end
end
section
/-! the reference's faults and fits, the component's fits -/
section
variable {c : Nat} {oc aa tn tt oo : Int32} {op ns co ce ly ls : Nat → Int32}
theorem sc_y105 {post : Int32 → SY → Prop} {J11 : Int32 → Int32 → Int32 → Prop} {O : Nat → Nat} {p h a : Nat} {x3 : Int32} (hp : p < 20) (eo : op p = nI (O p)) (ho : O p < 14) (hh : h < 7)
    (z : Int32) (hz : z = if sc_far O ns c p then 1 else 0) (H : J11 (nI (a ||| sc_ct O ns c p h)) x3 (nI (h + 1))) :
    wY_faults_105 post J11 (nI p) (nI a) x3 (nI h) z (nI c) oc aa tn tt oo op ns co ce ly ls := by
  have vq : vp_in (nI p) 20 := vp_in_nI hp (by omega)
  have e : op (nI p).toNatClampNeg = nI (O p) := by rw [nI_clamp (by omega)]; exact eo
  have n2 := sc_nd2 (O p)
  unfold sc_ct at H
  refine ⟨vq, ?_⟩
  rw [e]
  refine sc_yneed ho ?_
  by_cases y : h < sc_nd (O p)
  · rw [if_pos y] at H
    exact br_f (nI_ge y (by omega)) (nm_r (sc_or a 1) (nm_r (nI_1 h) H))
  · rw [if_neg y] at H
    refine br_t (nI_le (by omega) (by omega)) ?_
    by_cases w : 7 < h + sc_rs (O p)
    · rw [if_pos w] at H
      exact sc_ycan0 hp eo ho hh (by omega) (br_t rfl (nm_r (sc_or a 2) (nm_r (nI_1 h) H)))
    · rw [if_neg w] at H
      refine sc_ycan1 hp eo ho hh (by omega) (by omega) (br_f (by decide) ?_)
      by_cases f : sc_far O ns c p
      · rw [if_pos f] at H hz
        exact br_f (by rw [hz]; decide) (nm_r (sc_or a 4) (nm_r (nI_1 h) H))
      · rw [if_neg f] at H hz
        exact br_t hz (nm_r (sc_or a 0) (nm_r (nI_1 h) H))
theorem sc_y11 {post : Int32 → SY → Prop} {O : Nat → Nat} {W : Nat → Nat} {p : Nat} (hc : c ≤ 20) (hp : p < c) (Y : sc_Y W co) (eo : op p = nI (O p)) (ho : O p < 14)
    (H : post (nI (sc_F O ns c W p)) (nI c, oc, aa, tn, tt, oo, op, ns, co, ce, ly, ls)) : ∀ d h, h + d = 7 →
    wY_faults_11 post (nI p) (nI c) oc aa tn tt oo op ns co ce ly ls (d + 1) (nI (sc_fo (W p) (sc_ct O ns c p) h)) (nI (sc_cn (W p) h)) (nI h) := by
  have hp2 : p < 20 := by omega
  have vq : vp_in (nI p) 20 := vp_in_nI hp2 (by omega)
  have e : op (nI p).toNatClampNeg = nI (O p) := by rw [nI_clamp (by omega)]; exact eo
  have en : ns (nI p).toNatClampNeg = ns p := by rw [nI_clamp (by omega)]
  have ec : co (nI p).toNatClampNeg = nI (W p) := by rw [nI_clamp (by omega)]; exact (Y p hp2).2
  have e1 : nI p + 1 = nI (p + 1) := nI_1 p
  have in1 := sc_ins1 hc (q := p + 1) (by omega)
  intro d
  induction d with
  | zero =>
    intro h hd
    have h7 : h = 7 := by omega
    subst h7
    refine br_t (nI_le (a := 7) (by omega) (by omega)) ?_
    have l := sc_cn_le (W p) 7
    unfold sc_F sc_mx at H
    by_cases m : 1 < sc_cn (W p) 7
    · rw [if_pos m, ← sc_or] at H
      exact br_f (nI_ge (a := 1) m (by omega)) H
    · rw [if_neg m, Nat.or_zero] at H
      exact br_t (nI_le (b := 1) (by omega) (by decide)) H
  | succ d ih =>
    intro h hd
    have hh : h < 7 := by omega
    have r := ih (h + 1) (by omega)
    have t1 := sc_t1 (W p) (Y p hp2).1 h hh
    refine br_f (nI_ge (b := 7) (by omega) (by decide)) (sc_yin1 hc hp (br_f (by decide) ⟨vq, ?_⟩))
    have ef : sc_fo (W p) (sc_ct O ns c p) (h + 1) = sc_fo (W p) (sc_ct O ns c p) h ||| (if (W p).testBit h = true then sc_ct O ns c p h else 0) := rfl
    rw [ef, sc_cn_s] at r
    by_cases z : (W p).testBit h = true
    · rw [if_pos z, if_pos z] at r
      refine br_t (by rw [ec]; exact t1.mpr z) (nm_r (nI_1 _) ⟨vq, ?_⟩)
      have G := fun z hz => sc_y105 (post := post) (oc := oc) (aa := aa) (tn := tn) (tt := tt) (oo := oo) (co := co) (ce := ce) (ly := ly) (ls := ls) hp2 eo ho hh z hz r
      have i11 : nI (O p) = 11 ↔ O p = 11 := nI_eq (b := 11) (by omega) (by decide)
      have i12 : nI (O p) = 12 ↔ O p = 12 := nI_eq (b := 12) (by omega) (by decide)
      have F65 : (sc_far O ns c p ↔ ((O p = 11 ∨ O p = 12) ∧ ¬ (0 ≤ ns p ∧ ns p < nI c))) → wY_faults_65 post (wY_faults_11 post (nI p) (nI c) oc aa tn tt oo op ns co ce ly ls (d + 1)) (nI p) (nI (sc_fo (W p) (sc_ct O ns c p) h)) (nI (sc_cn (W p) h + 1)) (nI h) (nI c) oc aa tn tt oo op ns co ce ly ls := by
        intro ff
        have F87 : (O p = 11 ∨ O p = 12) → wY_faults_87 post (wY_faults_11 post (nI p) (nI c) oc aa tn tt oo op ns co ce ly ls (d + 1)) (nI p) (nI (sc_fo (W p) (sc_ct O ns c p) h)) (nI (sc_cn (W p) h + 1)) (nI h) (nI c) oc aa tn tt oo op ns co ce ly ls := by
          intro oo'
          refine ⟨vq, ?_⟩
          rw [en]
          by_cases i : 0 ≤ ns p ∧ ns p < nI c
          · obtain ⟨q, hq, eq⟩ := (sc_ins c hc (ns p)).mp i
            rw [eq]
            exact sc_yin1 hc hq (br_f (by decide) (G 0 (by rw [if_neg (fun s => (ff.mp s).2 i)])))
          · exact sc_yin0 i (br_t rfl (G 1 (by rw [if_pos (ff.mpr ⟨oo', i⟩)])))
        by_cases o11 : O p = 11
        · exact ⟨vq, br_t (by rw [e]; exact i11.mpr o11) (F87 (Or.inl o11))⟩
        · by_cases o12 : O p = 12
          · exact ⟨vq, br_f (by rw [e, i11]; exact o11) ⟨vq, br_t (by rw [e]; exact i12.mpr o12) (F87 (Or.inr o12))⟩⟩
          · refine ⟨vq, br_f (by rw [e, i11]; exact o11) ⟨vq, br_f (by rw [e, i12]; exact o12) (G 0 ?_)⟩⟩
            rw [if_neg (fun s => (ff.mp s).1.elim o11 o12)]
      by_cases o12 : O p < 12
      · refine br_f (by rw [e]; exact nI_ge (b := 12) o12 (by decide)) ?_
        rw [e1]
        by_cases j : p + 1 < c
        · exact sc_yin1 hc j (br_f (by decide) (F65 ⟨fun s => s.elim (fun s => absurd j s.2) id, Or.inr⟩))
        · exact sc_yin0 (fun s => j (in1.mp s)) (br_t rfl (G 1 (by rw [if_pos (Or.inl ⟨o12, j⟩)])))
      · exact br_t (by rw [e]; exact nI_le (a := 12) (by omega) (by omega)) (F65 ⟨fun s => s.elim (fun s => absurd s.1 o12) id, Or.inr⟩)
    · rw [if_neg z, if_neg z, Nat.or_zero] at r
      exact br_f (by rw [ec, t1]; exact z) (nm_r (nI_1 h) r)
theorem sc_yfaults (hc : c ≤ 20) (I : sc_I c op ns) {V : Nat → Nat} (hV : sc_Pic (sc_o op) ns c V) {p : Nat} (hp : p < c) :
    ∃ co' : Nat → Int32, ∀ post : Int32 → SY → Prop, post (nI (sc_F (sc_o op) ns c V p)) (nI c, oc, aa, tn, tt, oo, op, ns, co', ce, ly, ls) → wpY_faults post (nI c, oc, aa, tn, tt, oo, op, ns, co, ce, ly, ls) (nI p) := by
  obtain ⟨W', co', R, wp⟩ := sc_yfollow (oc := oc) (aa := aa) (tn := tn) (tt := tt) (oo := oo) (co := co) (ce := ce) (ly := ly) (ls := ls) hc I
  refine ⟨co', fun post H => ?_⟩
  unfold wpY_faults
  dsimp only
  refine wp _ ⟨8, ?_⟩
  rw [sc_F_e (sc_o op) ns c (sc_Pic_u (sc_o op) ns c hV R.2 hp)] at H
  exact sc_y11 hc hp R.1 (I p hp).1 (I p hp).2.1 H 7 0 rfl
theorem sc_yfaults0 (hc : c ≤ 20) (I : sc_I c op ns) {x : Int32} (hx : ¬ (0 ≤ x ∧ x < nI c)) :
    ∃ co' : Nat → Int32, ∀ post : Int32 → SY → Prop, post 0 (nI c, oc, aa, tn, tt, oo, op, ns, co', ce, ly, ls) → wpY_faults post (nI c, oc, aa, tn, tt, oo, op, ns, co, ce, ly, ls) x := by
  obtain ⟨W', co', R, wp⟩ := sc_yfollow (oc := oc) (aa := aa) (tn := tn) (tt := tt) (oo := oo) (co := co) (ce := ce) (ly := ly) (ls := ls) hc I
  refine ⟨co', fun post H => ?_⟩
  unfold wpY_faults
  dsimp only
  exact wp _ ⟨1, br_f (by decide) (sc_yin0 hx (br_t rfl (br_t (by decide) H)))⟩
/-- does it fit -/
def sc_fit (op ns : Nat → Int32) (c : Nat) (V : Nat → Nat) : Int32 := if 0 < c ∧ sc_ou (sc_F (sc_o op) ns c V) c = 0 then 1 else 0
theorem sc_ou16 (op ns : Nat → Int32) (c : Nat) (V : Nat → Nat) (n : Nat) : sc_ou (sc_F (sc_o op) ns c V) n < 16 := sc_ou_8 (b := 4) (sc_F16 (sc_o op) ns c V) n
theorem sc_y4 (hc : c ≤ 20) (I : sc_I c op ns) {V : Nat → Nat} (hV : sc_Pic (sc_o op) ns c V) : ∀ (d p : Nat) (co : Nat → Int32), p + d = c →
    ∃ co' : Nat → Int32, ∀ post : Int32 → SY → Prop, post (sc_fit op ns c V) (nI c, oc, aa, tn, tt, oo, op, ns, co', ce, ly, ls) → wY_fits_4 post (d + 1) (nI (sc_ou (sc_F (sc_o op) ns c V) p)) (nI p) (nI c) oc aa tn tt oo op ns co ce ly ls := by
  intro d
  induction d with
  | zero =>
    intro p co hd
    have e : p = c := by omega
    subst e
    refine ⟨co, fun post H => br_t (nI_le (Nat.le_refl _) (by omega)) ?_⟩
    have l := sc_ou16 op ns p V p
    unfold sc_fit at H
    by_cases z : 0 < p
    · refine br_f (nI_nle z (by omega)) ?_
      by_cases y : sc_ou (sc_F (sc_o op) ns p V) p = 0
      · rw [if_pos ⟨z, y⟩] at H
        exact br_t (by rw [y]; rfl) H
      · rw [if_neg (fun s => y s.2)] at H
        exact br_f (nI_ne0 (by omega) (by omega)) H
    · rw [if_neg (fun s => z s.1)] at H
      exact br_t (nI_le (b := 0) (by omega) (by decide)) H
  | succ d ih =>
    intro p co hd
    obtain ⟨co1, wp1⟩ := sc_yfaults (oc := oc) (aa := aa) (tn := tn) (tt := tt) (oo := oo) (co := co) (ce := ce) (ly := ly) (ls := ls) hc I hV (p := p) (by omega)
    obtain ⟨co2, wp2⟩ := ih (p + 1) co1 (by omega)
    refine ⟨co2, fun post H => br_f (nI_ge (by omega) (by omega)) (wp1 _ (nm_r (sc_or _ _) (nm_r (nI_1 p) (wp2 post H))))⟩
theorem sc_yfits (hc : c ≤ 20) (I : sc_I c op ns) {V : Nat → Nat} (hV : sc_Pic (sc_o op) ns c V) :
    ∃ co' : Nat → Int32, ∀ post : Int32 → SY → Prop, post (sc_fit op ns c V) (nI c, oc, aa, tn, tt, oo, op, ns, co', ce, ly, ls) → wpY_fits post (nI c, oc, aa, tn, tt, oo, op, ns, co, ce, ly, ls) := by
  obtain ⟨co', wp⟩ := sc_y4 (oc := oc) (aa := aa) (tn := tn) (tt := tt) (oo := oo) (ce := ce) (ly := ly) (ls := ls) hc I hV c 0 co (by omega)
  exact ⟨co', fun post H => ⟨_, wp post H⟩⟩
end
section
variable {c : Nat} {pf tt oo oc : Int32} {op ns ha fa pl lo ce la : Nat → Int32}
theorem sc_x4 (hc : c ≤ 20) {V : Nat → Nat} (hf : ∀ p, p < c → fa p = nI (sc_F (sc_o op) ns c V p)) {post : Int32 → Prop} (H : post (sc_fit op ns c V)) : ∀ (d p : Nat), p + d = c →
    wX_fits_4 post (nI c) pf tt oo oc op ns ha fa pl lo ce la (d + 1) (nI (sc_ou (sc_F (sc_o op) ns c V) p)) (nI p) := by
  intro d
  induction d with
  | zero =>
    intro p hd
    have e : p = c := by omega
    subst e
    refine br_t (nI_le (Nat.le_refl _) (by omega)) ?_
    have l := sc_ou16 op ns p V p
    unfold sc_fit at H
    by_cases z : 0 < p
    · refine br_f (nI_nle z (by omega)) ?_
      by_cases y : sc_ou (sc_F (sc_o op) ns p V) p = 0
      · rw [if_pos ⟨z, y⟩] at H
        exact br_t (by rw [y]; rfl) H
      · rw [if_neg (fun s => y s.2)] at H
        exact br_f (nI_ne0 (by omega) (by omega)) H
    · rw [if_neg (fun s => z s.1)] at H
      exact br_t (nI_le (b := 0) (by omega) (by decide)) H
  | succ d ih =>
    intro p hd
    have vq : vp_in (nI p) 20 := vp_in_nI (by omega) (by omega)
    have e : fa (nI p).toNatClampNeg = nI (sc_F (sc_o op) ns c V p) := by rw [nI_clamp (by omega)]; exact hf p (by omega)
    refine br_f (nI_ge (by omega) (by omega)) ⟨vq, nm_r ?_ (nm_r (nI_1 p) (ih (p + 1) (by omega)))⟩
    rw [e, sc_or]
    rfl
theorem sc_xfits (hc : c ≤ 20) {V : Nat → Nat} (hf : ∀ p, p < c → fa p = nI (sc_F (sc_o op) ns c V p)) {post : Int32 → Prop} (H : post (sc_fit op ns c V)) : wpX_fits post (nI c, pf, tt, oo, oc, op, ns, ha, fa, pl, lo, ce, la) :=
  ⟨_, sc_x4 hc hf H c 0 (by omega)⟩
end
end
section
/-! one instruction carried out, on both sides -/
theorem sc_a3 : ∀ j, j < 4 → nI j &&& 3 = nI j := by decide +kernel
section
variable {c : Nat} {pf tt oo oc : Int32} {op ns ha fa pl lo ce la : Nat → Int32}
theorem sc_xpush {post : SX → Prop} {t : Nat} {v : Int32} (ht : t < 6) (h : post (nI c, pf, nI (t + 1), oo, oc, op, ns, ha, fa, pl, lo, upd ce t v, la)) : wpX_push post (nI c, pf, nI t, oo, oc, op, ns, ha, fa, pl, lo, ce, la) v :=
  br_f (nI_ge (b := 6) ht (by decide)) ⟨vp_in_nI ht (by omega), nm_r (by rw [nI_clamp (by omega)]) (nm_r (nI_1 t) h)⟩
theorem sc_xpop {post : Int32 → SX → Prop} {t : Nat} (ht : t < 6) (h : post (ce t) (nI c, pf, nI t, oo, oc, op, ns, ha, fa, pl, lo, ce, la)) : wpX_pop post (nI c, pf, nI (t + 1), oo, oc, op, ns, ha, fa, pl, lo, ce, la) := by
  refine br_t (nI_lt (a := 0) (by omega) (by omega)) (nm_r (nI_pred t) ⟨vp_in_nI ht (by omega), ?_⟩)
  rw [nI_clamp (by omega)]
  exact h
end
section
variable {c : Nat} {oc aa tn tt oo : Int32} {op ns co ce ly ls : Nat → Int32}
theorem sc_ypush {post : SY → Prop} {t : Nat} {v : Int32} (ht : t < 6) (h : post (nI c, oc, aa, tn, nI (t + 1), oo, op, ns, co, upd ce t v, ly, ls)) : wpY_push post (nI c, oc, aa, tn, nI t, oo, op, ns, co, ce, ly, ls) v :=
  br_f (nI_ge (b := 6) ht (by decide)) ⟨vp_in_nI ht (by omega), nm_r (by rw [nI_clamp (by omega)]) (nm_r (nI_1 t) h)⟩
theorem sc_ypop {post : Int32 → SY → Prop} {t : Nat} (ht : t < 6) (h : post (ce t) (nI c, oc, aa, tn, nI t, oo, op, ns, co, ce, ly, ls)) : wpY_pop post (nI c, oc, aa, tn, nI (t + 1), oo, op, ns, co, ce, ly, ls) := by
  refine br_f (nI_nle (by omega) (by omega)) (nm_r (nI_pred t) ⟨vp_in_nI ht (by omega), ?_⟩)
  rw [nI_clamp (by omega)]
  exact h
theorem sc_yco0 {post : SY → Prop} {o pc : Nat} {n : Int32} (ho : o < 14) (hz : sc_nd o = 0)
    (H : wY_carryOut_42 post (nI o) n (nI (pc + 1)) 0 0 (nI c) oc (nI pc) tn tt oo op ns co ce ly ls) : wpY_carryOut post (nI c, oc, nI pc, tn, tt, oo, op, ns, co, ce, ly, ls) (nI o) n := by
  refine nm_r (nI_1 pc) (sc_yneed ho ?_)
  rw [hz]
  refine br_t (by decide) ?_
  refine sc_yneed ho ?_
  rw [hz]
  exact br_t (by decide) H
theorem sc_yco1 {post : SY → Prop} {o pc t : Nat} {n : Int32} (ho : o < 14) (hz : sc_nd o = 1) (ht : t < 6)
    (H : wY_carryOut_42 post (nI o) n (nI (pc + 1)) (ce t) 0 (nI c) oc (nI pc) tn (nI t) oo op ns co ce ly ls) : wpY_carryOut post (nI c, oc, nI pc, tn, nI (t + 1), oo, op, ns, co, ce, ly, ls) (nI o) n := by
  refine nm_r (nI_1 pc) (sc_yneed ho ?_)
  rw [hz]
  refine br_f (by decide) (sc_ypop ht ?_)
  show wY_carryOut_23 post (nI o) n (nI (pc + 1)) (ce t) (nI c) oc (nI pc) tn (nI t) oo op ns co ce ly ls
  refine sc_yneed ho ?_
  rw [hz]
  exact br_t (by decide) H
theorem sc_yco2 {post : SY → Prop} {o pc t : Nat} {n : Int32} (ho : o < 14) (hz : sc_nd o = 2) (ht : t + 1 < 6)
    (H : wY_carryOut_42 post (nI o) n (nI (pc + 1)) (ce (t + 1)) (ce t) (nI c) oc (nI pc) tn (nI t) oo op ns co ce ly ls) : wpY_carryOut post (nI c, oc, nI pc, tn, nI (t + 1 + 1), oo, op, ns, co, ce, ly, ls) (nI o) n := by
  refine nm_r (nI_1 pc) (sc_yneed ho ?_)
  rw [hz]
  refine br_f (by decide) (sc_ypop ht ?_)
  show wY_carryOut_23 post (nI o) n (nI (pc + 1)) (ce (t + 1)) (nI c) oc (nI pc) tn (nI (t + 1)) oo op ns co ce ly ls
  refine sc_yneed ho ?_
  rw [hz]
  exact br_f (by decide) (sc_ypop (by omega) H)
theorem sc_ysay3 {x : Int32} {ou : Nat} : ∀ (k : Nat) (lk : Nat → Int32), k ≤ 7 → (∀ j, j < 8 → lk j = if j ≤ k then ls j else ls (j - 1)) →
    ∃ ls' : Nat → Int32, (∀ j, j < 8 → ls' j = if j = 0 then x else ls (j - 1)) ∧
      ∀ post : SY → Prop, post (nI c, oc, aa, tn, tt, nI (ou + 1), op, ns, co, ce, ly, ls') → wY_say_3 post x (nI c) oc aa tn tt (nI ou) (k + 1) (nI k) op ns co ce ly lk := by
  intro k
  induction k with
  | zero =>
    intro lk _ e
    refine ⟨upd lk 0 x, fun j hj => ?_, fun post hp => br_t (by decide) (nm_e (nm_r (nI_1 ou) hp))⟩
    by_cases z : j = 0
    · rw [z, pk_us, if_pos rfl]
    · rw [pk_un z, if_neg z, e j hj, if_neg (by omega)]
  | succ k ih =>
    intro lk hk e
    have v1 : vp_in (nI k) 8 := vp_in_nI (by omega) (by omega)
    have v2 : vp_in (nI (k + 1)) 8 := vp_in_nI (by omega) (by omega)
    have u : upd lk (nI (k + 1)).toNatClampNeg (lk (nI (k + 1) - 1).toNatClampNeg) = upd lk (k + 1) (lk k) := by
      rw [nI_pred, nI_clamp (by omega), nI_clamp (by omega)]
    obtain ⟨ls', q, wp⟩ := ih (upd lk (k + 1) (lk k)) (by omega) (by
      intro j hj
      by_cases z : j = k + 1
      · rw [z, pk_us, e k (by omega), if_pos (by omega), if_neg (by omega)]
        rfl
      · rw [pk_un z, e j hj]
        by_cases y : j ≤ k
        · rw [if_pos y, if_pos (by omega)]
        · rw [if_neg y, if_neg (by omega)])
    refine ⟨ls', q, fun post hp => br_f (nI_nle (by omega) (by omega)) ⟨?_, v2, nm_r u (nm_r (pk_m1 k) (wp post hp))⟩⟩
    rw [nI_pred]
    exact v1
theorem sc_ysay {x : Int32} {ou : Nat} :
    ∃ ls' : Nat → Int32, (∀ j, j < 8 → ls' j = if j = 0 then x else ls (j - 1)) ∧
      ∀ post : SY → Prop, post (nI c, oc, aa, tn, tt, nI (ou + 1), op, ns, co, ce, ly, ls') → wpY_say post (nI c, oc, aa, tn, tt, nI ou, op, ns, co, ce, ly, ls) x := by
  obtain ⟨ls', q, wp⟩ := sc_ysay3 (c := c) (oc := oc) (aa := aa) (tn := tn) (tt := tt) (op := op) (ns := ns) (co := co) (ce := ce) (ly := ly) (ls := ls) (x := x) (ou := ou) 7 ls (by omega) (fun j hj => by rw [if_pos (by omega)])
  exact ⟨ls', q, fun post hp => ⟨_, wp post hp⟩⟩
end
section
variable {c : Nat} {pf oc aa tn : Int32} {op ns ha fa pl co : Nat → Int32}
theorem sc_step {o t ou pc : Nat} {n : Int32} {lo ce la ls : Nat → Int32} (h11 : o < 11) (a : sc_nd o ≤ t) (b : t + sc_rs o ≤ 7) (hn : o = 1 ∨ o = 2 → ∃ j, j < 4 ∧ n = nI j)
    (G : sc_G ou la ls) (hou : ou < 10000) (tl : t < 7) :
    ∃ (t' ou' : Nat) (lo' ce' la' ls' : Nat → Int32), t' + 1 = t + sc_rs o ∧ sc_G ou' la' ls' ∧ ou' ≤ ou + 1 ∧
      (∀ post : SX → Prop, post (nI c, pf, nI t', nI ou', oc, op, ns, ha, fa, pl, lo', ce', la') → wpX_carryOut post (nI c, pf, nI t, nI ou, oc, op, ns, ha, fa, pl, lo, ce, la) (nI o) n) ∧
      (∀ post : SY → Prop, post (nI c, oc, nI (pc + 1), tn, nI t', nI ou', op, ns, co, ce', lo', ls') → wpY_carryOut post (nI c, oc, nI pc, tn, nI t, nI ou, op, ns, co, ce, lo, ls) (nI o) n) := by
  rcases (by omega : o = 0 ∨ o = 1 ∨ o = 2 ∨ o = 3 ∨ o = 4 ∨ o = 5 ∨ o = 6 ∨ o = 7 ∨ o = 8 ∨ o = 9 ∨ o = 10) with rfl | rfl | rfl | rfl | rfl | rfl | rfl | rfl | rfl | rfl | rfl
  · have r : sc_rs 0 = 2 := by decide
    refine ⟨t + 1, ou, lo, upd ce t n, la, ls, by omega, G, by omega, fun post hp => ?_, fun post hp => sc_yco0 (by omega) (by decide) ?_⟩
    · exact br_f (by decide) (br_f (by decide) (br_t (by decide) (sc_xpush (by omega) hp)))
    · exact br_t (by decide) (sc_ypush (by omega) hp)
  · have r : sc_rs 1 = 2 := by decide
    obtain ⟨j, hj, rfl⟩ := hn (Or.inl rfl)
    have vj : vp_in (nI j) 4 := vp_in_nI hj (by omega)
    refine ⟨t + 1, ou, lo, upd ce t (lo j), la, ls, by omega, G, by omega, fun post hp => ?_, fun post hp => sc_yco0 (by omega) (by decide) ?_⟩
    · refine br_f (by decide) (br_f (by decide) (br_f (by decide) (br_t (by decide) ⟨vj, ?_⟩)))
      rw [nI_clamp (by omega)]
      exact sc_xpush (by omega) hp
    · refine br_f (by decide) (br_t (by decide) ?_)
      rw [sc_a3 j hj]
      refine ⟨vj, ?_⟩
      rw [nI_clamp (by omega)]
      exact sc_ypush (by omega) hp
  · have r : sc_rs 2 = 0 := by decide
    have m : sc_nd 2 = 1 := by decide
    obtain ⟨j, hj, rfl⟩ := hn (Or.inr rfl)
    have vj : vp_in (nI j) 4 := vp_in_nI hj (by omega)
    obtain ⟨s, rfl⟩ : ∃ s, t = s + 1 := ⟨t - 1, by omega⟩
    refine ⟨s, ou, upd lo j (ce s), ce, la, ls, by omega, G, by omega, fun post hp => ?_, fun post hp => sc_yco1 (by omega) (by decide) (by omega) ?_⟩
    · refine br_f (by decide) (br_f (by decide) (br_f (by decide) (br_f (by decide) (br_t (by decide) (sc_xpop (by omega) ⟨vj, nm_r ?_ hp⟩)))))
      rw [nI_clamp (by omega)]
    · refine br_f (by decide) (br_f (by decide) (br_t (by decide) ?_))
      rw [sc_a3 j hj]
      refine ⟨vj, nm_r ?_ hp⟩
      rw [nI_clamp (by omega)]
  · have r : sc_rs 3 = 0 := by decide
    have m : sc_nd 3 = 2 := by decide
    obtain ⟨s, rfl⟩ : ∃ s, t = s + 1 + 1 := ⟨t - 2, by omega⟩
    refine ⟨s + 1, ou, lo, upd ce s (ce s + ce (s + 1)), la, ls, by omega, G, by omega, fun post hp => ?_, fun post hp => sc_yco2 (by omega) (by decide) (by omega) ?_⟩
    · refine br_f (by decide) (br_f (by decide) (br_f (by decide) (br_f (by decide) (br_f (by decide) (br_t (by decide) ?_)))))
      unfold wX_carryOut_123 wpX_calculate
      dsimp only
      refine sc_xpop (by omega) (sc_xpop (by omega) (br_f (by decide) (br_f (by decide) ?_)))
      exact br_t (by decide) (sc_xpush (by omega) hp)
    · refine br_f (by decide) (br_f (by decide) (br_f (by decide) (br_f (by decide) ?_)))
      exact br_t (by decide) (sc_ypush (by omega) hp)
  · have r : sc_rs 4 = 0 := by decide
    have m : sc_nd 4 = 2 := by decide
    obtain ⟨s, rfl⟩ : ∃ s, t = s + 1 + 1 := ⟨t - 2, by omega⟩
    refine ⟨s + 1, ou, lo, upd ce s (ce s - ce (s + 1)), la, ls, by omega, G, by omega, fun post hp => ?_, fun post hp => sc_yco2 (by omega) (by decide) (by omega) ?_⟩
    · refine br_f (by decide) (br_f (by decide) (br_f (by decide) (br_f (by decide) (br_f (by decide) (br_f (by decide) (br_t (by decide) ?_))))))
      unfold wX_carryOut_123 wpX_calculate
      dsimp only
      refine sc_xpop (by omega) (sc_xpop (by omega) (br_f (by decide) (br_f (by decide) ?_)))
      exact br_f (by decide) (br_t (by decide) (sc_xpush (by omega) hp))
    · refine br_f (by decide) (br_f (by decide) (br_f (by decide) (br_f (by decide) ?_)))
      exact br_f (by decide) (br_t (by decide) (sc_ypush (by omega) hp))
  · have r : sc_rs 5 = 0 := by decide
    have m : sc_nd 5 = 2 := by decide
    obtain ⟨s, rfl⟩ : ∃ s, t = s + 1 + 1 := ⟨t - 2, by omega⟩
    refine ⟨s + 1, ou, lo, upd ce s (ce s * ce (s + 1)), la, ls, by omega, G, by omega, fun post hp => ?_, fun post hp => sc_yco2 (by omega) (by decide) (by omega) ?_⟩
    · refine br_f (by decide) (br_f (by decide) (br_f (by decide) (br_f (by decide) (br_f (by decide) (br_f (by decide) (br_f (by decide) (br_t (by decide) ?_)))))))
      unfold wX_carryOut_123 wpX_calculate
      dsimp only
      refine sc_xpop (by omega) (sc_xpop (by omega) (br_f (by decide) (br_f (by decide) ?_)))
      exact br_f (by decide) (br_f (by decide) (br_t (by decide) (sc_xpush (by omega) hp)))
    · refine br_f (by decide) (br_f (by decide) (br_f (by decide) (br_f (by decide) ?_)))
      exact br_f (by decide) (br_f (by decide) (br_t (by decide) (sc_ypush (by omega) hp)))
  · have r : sc_rs 6 = 0 := by decide
    have m : sc_nd 6 = 2 := by decide
    obtain ⟨s, rfl⟩ : ∃ s, t = s + 1 + 1 := ⟨t - 2, by omega⟩
    refine ⟨s + 1, ou, lo, upd ce s (if ce (s + 1) ≤ ce s then 0 else 1), la, ls, by omega, G, by omega, fun post hp => ?_, fun post hp => sc_yco2 (by omega) (by decide) (by omega) ?_⟩
    · refine br_f (by decide) (br_f (by decide) (br_f (by decide) (br_f (by decide) (br_f (by decide) (br_f (by decide) (br_f (by decide) (br_f (by decide) (br_t (by decide) ?_))))))))
      unfold wX_carryOut_123 wpX_calculate
      dsimp only
      refine sc_xpop (by omega) (sc_xpop (by omega) (br_f (by decide) (br_t (by decide) ?_)))
      by_cases z : ce (s + 1) ≤ ce s
      · rw [if_pos z] at hp
        refine br_t z ?_
        exact sc_xpush (by omega) hp
      · rw [if_neg z] at hp
        refine br_f z ?_
        exact sc_xpush (by omega) hp
    · refine br_f (by decide) (br_f (by decide) (br_f (by decide) (br_f (by decide) (br_f (by decide) (br_f (by decide) (br_f (by decide) ?_))))))
      by_cases z : ce (s + 1) ≤ ce s
      · rw [if_pos z] at hp
        exact br_t z (sc_ypush (by omega) hp)
      · rw [if_neg z] at hp
        exact br_f z (sc_ypush (by omega) hp)
  · have r : sc_rs 7 = 2 := by decide
    have m : sc_nd 7 = 1 := by decide
    obtain ⟨s, rfl⟩ : ∃ s, t = s + 1 := ⟨t - 1, by omega⟩
    refine ⟨s + 1 + 1, ou, lo, upd (upd ce s (ce s)) (s + 1) (ce s), la, ls, by omega, G, by omega, fun post hp => ?_, fun post hp => sc_yco1 (by omega) (by decide) (by omega) ?_⟩
    · refine br_f (by decide) (br_f (by decide) (br_f (by decide) (br_f (by decide) (br_f (by decide) (br_f (by decide) (br_f (by decide) (br_f (by decide) (br_f (by decide) (br_t (by decide) ?_)))))))))
      unfold wpX_duplicate
      dsimp only
      exact sc_xpop (by omega) (sc_xpush (by omega) (sc_xpush (by omega) hp))
    · refine br_f (by decide) (br_f (by decide) (br_f (by decide) (br_t (by decide) (br_t (by decide) ?_))))
      exact sc_ypush (by omega) (sc_ypush (by omega) hp)
  · have r : sc_rs 8 = 1 := by decide
    have m : sc_nd 8 = 2 := by decide
    obtain ⟨s, rfl⟩ : ∃ s, t = s + 1 + 1 := ⟨t - 2, by omega⟩
    refine ⟨s + 1 + 1, ou, lo, upd (upd ce s (ce (s + 1))) (s + 1) (ce s), la, ls, by omega, G, by omega, fun post hp => ?_, fun post hp => sc_yco2 (by omega) (by decide) (by omega) ?_⟩
    · refine br_f (by decide) (br_f (by decide) (br_f (by decide) (br_f (by decide) (br_f (by decide) (br_f (by decide) (br_f (by decide) (br_f (by decide) (br_f (by decide) (br_f (by decide) (br_t (by decide) ?_))))))))))
      unfold wpX_exchange
      dsimp only
      exact sc_xpop (by omega) (sc_xpop (by omega) (sc_xpush (by omega) (sc_xpush (by omega) hp)))
    · refine br_f (by decide) (br_f (by decide) (br_f (by decide) (br_t (by decide) (br_f (by decide) (br_t (by decide) ?_)))))
      exact sc_ypush (by omega) (sc_ypush (by omega) hp)
  · have r : sc_rs 9 = 0 := by decide
    have m : sc_nd 9 = 1 := by decide
    obtain ⟨s, rfl⟩ : ∃ s, t = s + 1 := ⟨t - 1, by omega⟩
    refine ⟨s, ou, lo, ce, la, ls, by omega, G, by omega, fun post hp => ?_, fun post hp => sc_yco1 (by omega) (by decide) (by omega) ?_⟩
    · refine br_f (by decide) (br_f (by decide) (br_f (by decide) (br_f (by decide) (br_f (by decide) (br_f (by decide) (br_f (by decide) (br_f (by decide) (br_f (by decide) (br_f (by decide) (br_f (by decide) (br_t (by decide) ?_)))))))))))
      exact sc_xpop (by omega) hp
    · exact br_f (by decide) (br_f (by decide) (br_f (by decide) (br_t (by decide) (br_f (by decide) (br_f (by decide) (br_f (by decide) (br_f (by decide) (br_f (by decide) hp))))))))
  · have r : sc_rs 10 = 0 := by decide
    have m : sc_nd 10 = 1 := by decide
    obtain ⟨s, rfl⟩ : ∃ s, t = s + 1 := ⟨t - 1, by omega⟩
    obtain ⟨ls', q, wp⟩ := sc_ysay (c := c) (oc := oc) (aa := nI pc) (tn := tn) (tt := nI s) (op := op) (ns := ns) (co := co) (ce := ce) (ly := lo) (ls := ls) (x := ce s) (ou := ou)
    have e8 : nI ou - nI ou / 8 * 8 = nI (ou % 8) := pk_rem (d := 8) (by omega) (by omega) (by omega)
    refine ⟨s, ou + 1, lo, ce, upd la (ou % 8) (ce s), ls', by omega, sc_G_s G q, by omega, fun post hp => ?_, fun post hp => sc_yco1 (by omega) (by decide) (by omega) ?_⟩
    · refine br_f (by decide) (br_f (by decide) (br_f (by decide) (br_f (by decide) (br_f (by decide) (br_f (by decide) (br_f (by decide) (br_f (by decide) (br_f (by decide) (br_f (by decide) (br_f (by decide) (br_f (by decide) (br_t (by decide) ?_))))))))))))
      unfold wpX_putOut
      dsimp only
      refine sc_xpop (by omega) ⟨by decide, ?_⟩
      rw [e8]
      refine ⟨vp_in_nI (by omega) (by omega), nm_r ?_ (nm_r (nI_1 ou) hp)⟩
      rw [nI_clamp (by omega)]
    · exact br_f (by decide) (br_f (by decide) (br_f (by decide) (br_t (by decide) (br_f (by decide) (br_f (by decide) (br_t (by decide) (wp _ hp)))))))
end
end
section
/-! the run, both sides in step -/
section
variable {c : Nat} {pf : Int32} {op ns ha fa pl co : Nat → Int32}
theorem sc_run (hc : c ≤ 20) (I : sc_I c op ns) {W : Nat → Nat} (hP : sc_Pic (sc_o op) ns c W) (hF : ∀ p, p < c → sc_F (sc_o op) ns c W p = 0) :
    ∀ (d k pc tn t ou : Nat) (lo ce la ls : Nat → Int32), k + d = 820 → pc < c → t < 7 → sc_R (sc_o op) ns c pc t → k ≤ 20 * tn + pc → tn ≤ 40 → ou ≤ k → sc_G ou la ls →
    ∃ (r : Int32) (t' ou' : Nat) (aa' tn' : Int32) (lo' ce' la' ls' : Nat → Int32), ¬ r = 0 ∧ t' < 7 ∧ ou' ≤ 1000 ∧ sc_G ou' la' ls' ∧
      (∀ post : Int32 → SX → Prop, post r (nI c, pf, nI t', nI ou', 0, op, ns, ha, fa, pl, lo', ce', la') → wX_carryOutAll_6 post (d + 1) (nI pc) (nI tn) (nI k) (nI c) pf (nI t) (nI ou) 0 op ns ha fa pl lo ce la) ∧
      (∀ post : Int32 → SY → Prop, post r (nI c, r, aa', tn', nI t', nI ou', op, ns, co, ce', lo', ls') → wY_run_53 post (d + 2) (nI k) (nI c) 0 (nI pc) (nI tn) (nI t) (nI ou) op ns co ce lo ls) := by
  intro d
  induction d with
  | zero =>
    intro k pc tn t ou lo ce la ls hk hpc ht hR hkp htn hou G
    omega
  | succ d ih =>
    intro k pc tn t ou lo ce la ls hk hpc ht hR hkp htn hou G
    obtain ⟨s1, s2, s3, s4⟩ := sc_safe (sc_o op) ns c hc hP hF hpc ht hR
    obtain ⟨i1, i2, i3⟩ := I pc hpc
    have vq : vp_in (nI pc) 20 := vp_in_nI (by omega) (by omega)
    have eo : op (nI pc).toNatClampNeg = nI (sc_o op pc) := by rw [nI_clamp (by omega)]; exact i1
    have en : ns (nI pc).toNatClampNeg = ns pc := by rw [nI_clamp (by omega)]
    have x1 : ¬ (100000 : Int32) ≤ nI k := nI_ge (b := 100000) (by omega) (by decide)
    have y1 : ¬ (900 : Int32) ≤ nI k := nI_ge (b := 900) (by omega) (by decide)
    have e1 : nI pc + 1 = nI (pc + 1) := nI_1 pc
    have k20 : 20 * tn + pc ≤ 819 := by omega
    by_cases o13 : sc_o op pc = 13
    · rw [o13] at eo
      refine ⟨1, t, ou, nI pc, nI tn, lo, ce, la, ls, by decide, ht, by omega, G, fun post hp => ?_, fun post hp => ?_⟩
      · exact br_f x1 (sc_xpos1 hc hpc (br_f (by decide) ⟨vq, nm_r eo (br_t rfl hp)⟩))
      · exact br_f y1 (br_t rfl (sc_yin1 hc hpc (br_f (by decide) ⟨vq, nm_r eo (br_t rfl (nm_r (nI_1 k) (br_c (fun _ => hp) (fun _ => br_f (by decide) hp))))⟩)))
    · by_cases tt : sc_o op pc = 11 ∨ sc_o op pc = 12
      · obtain ⟨q, hq, eq⟩ := s4 tt
        by_cases t40 : tn < 40
        · have lt : nI tn < 40 := nI_lt (b := 40) t40 (by decide)
          rcases tt with o11 | o12
          · rw [o11] at eo s1 s2
            have m : sc_nd 11 = 1 := by decide
            have r : sc_rs 11 = 0 := by decide
            obtain ⟨s, rfl⟩ : ∃ s, t = s + 1 := ⟨t - 1, by omega⟩
            by_cases z : ce s = 0
            · obtain ⟨r', t', ou', aa', tn', lo', ce', la', ls', g1, g2, g3, g4, wx, wy⟩ := ih (k + 1) q (tn + 1) s ou lo ce la ls (by omega) hq (by omega)
                (sc_Rs (sc_o op) ns c hpc ht hR ⟨by rw [o11]; omega, by rw [o11]; omega, by rw [o11]; omega, hq, Or.inr ⟨Or.inl o11, eq⟩⟩) (by omega) (by omega) (by omega) G
              refine ⟨r', t', ou', aa', tn', lo', ce', la', ls', g1, g2, g3, g4, fun post hp => ?_, fun post hp => ?_⟩
              · refine br_f x1 (sc_xpos1 hc hpc (br_f (by decide) ⟨vq, nm_r eo (br_f (by decide) (br_t rfl (br_t lt (nm_r (nI_1 tn) ⟨vq, br_t eo (sc_xpop (by omega) (br_t z ⟨vq, nm_r (nI_1 k) ?_⟩))⟩))))⟩))
                rw [en, eq]
                exact wx post hp
              · refine br_f y1 (br_t rfl (sc_yin1 hc hpc (br_f (by decide) ⟨vq, nm_r eo (br_f (by decide) (br_t rfl (br_t lt ⟨vq, ?_⟩)))⟩)))
                rw [en, eq]
                refine sc_yco1 (by omega) m (by omega) ?_
                refine br_f (by decide) (br_f (by decide) (br_f (by decide) (br_t (by decide) (br_f (by decide) (br_f (by decide) (br_f (by decide) (br_t rfl ?_)))))))
                exact nm_r (nI_1 tn) (br_f (by decide) (br_t z (nm_r (nI_1 k) (wy post hp))))
            · have p1 : pc + 1 < c := s3 (by omega)
              obtain ⟨r', t', ou', aa', tn', lo', ce', la', ls', g1, g2, g3, g4, wx, wy⟩ := ih (k + 1) (pc + 1) (tn + 1) s ou lo ce la ls (by omega) p1 (by omega)
                (sc_Rs (sc_o op) ns c hpc ht hR ⟨by rw [o11]; omega, by rw [o11]; omega, by rw [o11]; omega, p1, Or.inl ⟨by omega, rfl⟩⟩) (by omega) (by omega) (by omega) G
              refine ⟨r', t', ou', aa', tn', lo', ce', la', ls', g1, g2, g3, g4, fun post hp => ?_, fun post hp => ?_⟩
              · refine br_f x1 (sc_xpos1 hc hpc (br_f (by decide) ⟨vq, nm_r eo (br_f (by decide) (br_t rfl (br_t lt (nm_r (nI_1 tn) ⟨vq, br_t eo (sc_xpop (by omega) (br_f z (nm_r (nI_1 k) ?_)))⟩))))⟩))
                rw [e1]
                exact wx post hp
              · refine br_f y1 (br_t rfl (sc_yin1 hc hpc (br_f (by decide) ⟨vq, nm_r eo (br_f (by decide) (br_t rfl (br_t lt ⟨vq, ?_⟩)))⟩)))
                rw [en, eq]
                refine sc_yco1 (by omega) m (by omega) ?_
                refine br_f (by decide) (br_f (by decide) (br_f (by decide) (br_t (by decide) (br_f (by decide) (br_f (by decide) (br_f (by decide) (br_t rfl ?_)))))))
                exact nm_r (nI_1 tn) (br_f (by decide) (br_f z (nm_r (nI_1 k) (wy post hp))))
          · rw [o12] at eo s1 s2
            have m : sc_nd 12 = 0 := by decide
            have r : sc_rs 12 = 1 := by decide
            obtain ⟨r', t', ou', aa', tn', lo', ce', la', ls', g1, g2, g3, g4, wx, wy⟩ := ih (k + 1) q (tn + 1) t ou lo ce la ls (by omega) hq (by omega)
              (sc_Rs (sc_o op) ns c hpc ht hR ⟨by rw [o12]; omega, by rw [o12]; omega, by rw [o12]; omega, hq, Or.inr ⟨Or.inr o12, eq⟩⟩) (by omega) (by omega) (by omega) G
            refine ⟨r', t', ou', aa', tn', lo', ce', la', ls', g1, g2, g3, g4, fun post hp => ?_, fun post hp => ?_⟩
            · refine br_f x1 (sc_xpos1 hc hpc (br_f (by decide) ⟨vq, nm_r eo (br_f (by decide) (br_f (by decide) (br_t rfl (br_t lt (nm_r (nI_1 tn) ⟨vq, br_f (by rw [eo]; decide) ⟨vq, nm_r (nI_1 k) ?_⟩⟩)))))⟩))
              rw [en, eq]
              exact wx post hp
            · refine br_f y1 (br_t rfl (sc_yin1 hc hpc (br_f (by decide) ⟨vq, nm_r eo (br_f (by decide) (br_f (by decide) (br_t rfl (br_t lt ⟨vq, ?_⟩))))⟩)))
              rw [en, eq]
              refine sc_yco0 (by omega) m ?_
              refine br_f (by decide) (br_f (by decide) (br_f (by decide) (br_t (by decide) (br_f (by decide) (br_f (by decide) (br_f (by decide) (br_f (by decide) (br_t rfl ?_))))))))
              exact nm_r (nI_1 tn) (br_t rfl (nm_r (nI_1 k) (wy post hp)))
        · have nlt : ¬ nI tn < 40 := nI_nlt (b := 40) (by omega) (by omega)
          refine ⟨2, t, ou, nI pc, nI tn, lo, ce, la, ls, by decide, ht, by omega, G, fun post hp => ?_, fun post hp => ?_⟩
          · refine br_f x1 (sc_xpos1 hc hpc (br_f (by decide) ⟨vq, nm_r eo ?_⟩))
            rcases tt with o11 | o12
            · rw [o11]
              exact br_f (by decide) (br_t rfl (br_f nlt hp))
            · rw [o12]
              exact br_f (by decide) (br_f (by decide) (br_t rfl (br_f nlt hp)))
          · refine br_f y1 (br_t rfl (sc_yin1 hc hpc (br_f (by decide) ⟨vq, nm_r eo ?_⟩)))
            rcases tt with o11 | o12
            · rw [o11]
              exact br_f (by decide) (br_t rfl (br_f nlt (nm_r (nI_1 k) (br_c (fun _ => hp) (fun _ => br_f (by decide) hp)))))
            · rw [o12]
              exact br_f (by decide) (br_f (by decide) (br_t rfl (br_f nlt (nm_r (nI_1 k) (br_c (fun _ => hp) (fun _ => br_f (by decide) hp))))))
      · have h11 : sc_o op pc < 11 := by omega
        have p1 : pc + 1 < c := s3 (by omega)
        obtain ⟨t1, ou1, lo1, ce1, la1, ls1, et, G1, hou1, wx1, wy1⟩ := sc_step (c := c) (pf := pf) (oc := 0) (tn := nI tn) (op := op) (ns := ns) (ha := ha) (fa := fa) (pl := pl) (co := co) (pc := pc) (n := ns pc) (lo := lo) (ce := ce) h11 s1 s2 i3 G (by omega) ht
        obtain ⟨r', t', ou', aa', tn', lo', ce', la', ls', g1, g2, g3, g4, wx, wy⟩ := ih (k + 1) (pc + 1) tn t1 ou1 lo1 ce1 la1 ls1 (by omega) p1 (by omega)
          (sc_Rs (sc_o op) ns c hpc ht hR ⟨s1, s2, et, p1, Or.inl ⟨by omega, rfl⟩⟩) (by omega) (by omega) (by omega) G1
        have n13 : ¬ nI (sc_o op pc) = 13 := fun z => o13 ((nI_eq (b := 13) (by omega) (by decide)).mp z)
        have n11 : ¬ nI (sc_o op pc) = 11 := fun z => tt (Or.inl ((nI_eq (b := 11) (by omega) (by decide)).mp z))
        have n12 : ¬ nI (sc_o op pc) = 12 := fun z => tt (Or.inr ((nI_eq (b := 12) (by omega) (by decide)).mp z))
        refine ⟨r', t', ou', aa', tn', lo', ce', la', ls', g1, g2, g3, g4, fun post hp => ?_, fun post hp => ?_⟩
        · refine br_f x1 (sc_xpos1 hc hpc (br_f (by decide) ⟨vq, nm_r eo (br_f n13 (br_f n11 (br_f n12 ⟨vq, ?_⟩)))⟩))
          rw [en]
          exact wx1 _ (nm_r (nI_1 pc) (nm_r (nI_1 k) (wx post hp)))
        · refine br_f y1 (br_t rfl (sc_yin1 hc hpc (br_f (by decide) ⟨vq, nm_r eo (br_f n13 (br_f n11 (br_f n12 ⟨vq, ?_⟩)))⟩)))
          rw [en]
          exact wy1 _ (nm_r (nI_1 k) (wy post hp))
end
end
section
/-! the relation, and what the owed statements need besides -/
/-- one program, one run, one row of outputs; the component's tables are those of the walks; locals forgotten or the same -/
def i_Rel (k : Nat) (u : SX) (v : SY) : Prop :=
  ∃ (c t ou : Nat) (pf oc aa tn : Int32) (op ns ha fa pl lo ce la co ly ls : Nat → Int32),
    u = (nI c, pf, nI t, nI ou, oc, op, ns, ha, fa, pl, lo, ce, la) ∧ v = (nI c, oc, aa, tn, nI t, nI ou, op, ns, co, ce, ly, ls) ∧
    c ≤ 20 ∧ t < 7 ∧ ou ≤ 1000 ∧ sc_I c op ns ∧ sc_T c op ns ha fa ∧ sc_G ou la ls ∧ sc_H oc lo ly
theorem sc_H_0 {oc : Int32} {lo ly : Nat → Int32} (h : sc_H oc lo ly) : sc_H 0 (sc_l0 lo) ly :=
  ⟨fun i hi => (if_neg (by omega)).trans (h.1 i hi), Or.inl ⟨rfl, fun i hi => if_pos hi⟩⟩
theorem sc_loc {lo ly : Nat → Int32} (h : ∀ i, 4 ≤ i → lo i = ly i) (x y : Int32) :
    upd (upd (sc_l0 lo) 0 x) 1 y = upd (upd (upd (upd ly 0 x) 1 y) 2 0) 3 0 := by
  funext i
  by_cases e3 : i = 3
  · subst e3; rfl
  · by_cases e2 : i = 2
    · subst e2; rfl
    · rw [pk_un (k := 3) e3, pk_un (k := 2) e2]
      by_cases e1 : i = 1
      · rw [e1, pk_us, pk_us]
      · rw [pk_un (k := 1) e1, pk_un (k := 1) e1]
        by_cases e0 : i = 0
        · rw [e0, pk_us, pk_us]
        · rw [pk_un (k := 0) e0, pk_un (k := 0) e0]
          exact (if_neg (by omega)).trans (h i (by omega))
section
variable {k c t ou : Nat} {pf oc aa tn tt oo : Int32} {op ns ha fa pl lo ce la co ly ls : Nat → Int32}
theorem sc_rel (hc : c ≤ 20) (ht : t < 7) (hou : ou ≤ 1000) (hI : sc_I c op ns) (hT : sc_T c op ns ha fa) (hG : sc_G ou la ls) (hH : sc_H oc lo ly) :
    i_Rel k (nI c, pf, nI t, nI ou, oc, op, ns, ha, fa, pl, lo, ce, la) (nI c, oc, aa, tn, nI t, nI ou, op, ns, co, ce, ly, ls) :=
  ⟨c, t, ou, pf, oc, aa, tn, op, ns, ha, fa, pl, lo, ce, la, co, ly, ls, rfl, rfl, hc, ht, hou, hI, hT, hG, hH⟩
/-- the run is forgotten -/
theorem sc_rel0 (hc : c ≤ 20) (hI : sc_I c op ns) (hT : sc_T c op ns ha fa) (hH : sc_H oc lo ly) :
    i_Rel k (nI c, pf, 0, 0, 0, op, ns, ha, fa, pl, sc_l0 lo, ce, la) (nI c, 0, aa, tn, 0, 0, op, ns, co, ce, ly, ls) :=
  sc_rel (t := 0) (ou := 0) hc (by omega) (by omega) hI hT (sc_G_0 _ _) (sc_H_0 hH)
theorem sc_xloc1 {post : Int32 → Prop} {j : Nat} (hj : j < 4) (h : post 1) : wpX_isLocal post (nI c, pf, tt, oo, oc, op, ns, ha, fa, pl, lo, ce, la) (nI j) :=
  br_f (nI_pos (by omega)) (br_f (nI_ge (b := 4) hj (by decide)) h)
theorem sc_xloc0 {post : Int32 → Prop} {x : Int32} (hx : x < 0 ∨ nI 4 ≤ x) (h : post 0) : wpX_isLocal post (nI c, pf, tt, oo, oc, op, ns, ha, fa, pl, lo, ce, la) x := by
  by_cases a : x < 0
  · exact br_t a h
  · exact br_f a (br_t (hx.elim (fun z => absurd z a) id) h)
theorem sc_le_nI {x : Int32} {n : Nat} (hn : n < 2 ^ 31) (h : nI n ≤ x) : ∃ j, j < 2 ^ 31 ∧ n ≤ j ∧ x = nI j := by
  have a : ¬ x < 0 := Int32.not_lt.mpr (Int32.le_trans (nI_pos' hn) h)
  obtain ⟨j, hj, rfl⟩ := nI_of a
  rw [nI_leI hn hj] at h
  exact ⟨j, hj, h, rfl⟩
/-- an instruction, or none: both sides say so -/
theorem sc_instr (x y : Int32) :
    (∃ o, o < 14 ∧ x = nI o ∧ (o = 1 ∨ o = 2 → ∃ j, j < 4 ∧ y = nI j) ∧ (∀ post : Int32 → Prop, post 1 → wpX_isInstruction post (nI c, pf, tt, oo, oc, op, ns, ha, fa, pl, lo, ce, la) x y) ∧ (∀ post : Int32 → Prop, post 0 → wpY_bad post (nI c, oc, aa, tn, tt, oo, op, ns, co, ce, ly, ls) x y)) ∨
    ((∀ post : Int32 → Prop, post 0 → wpX_isInstruction post (nI c, pf, tt, oo, oc, op, ns, ha, fa, pl, lo, ce, la) x y) ∧ (∀ post : Int32 → Prop, post 1 → wpY_bad post (nI c, oc, aa, tn, tt, oo, op, ns, co, ce, ly, ls) x y)) := by
  rcases pk_ix x (n := 14) (by decide) with h | h | ⟨o, ho, rfl⟩
  · have n1 : ¬ x = 1 := fun e => by rw [e] at h; revert h; decide
    have n2 : ¬ x = 2 := fun e => by rw [e] at h; revert h; decide
    exact Or.inr ⟨fun post hp => br_f n1 (br_f n2 (br_t h hp)), fun post hp => br_t h hp⟩
  · obtain ⟨j, hj, h14, rfl⟩ := sc_le_nI (by decide) h
    have n1 : ¬ nI j = 1 := fun e => by have := (nI_eq (b := 1) hj (by decide)).mp e; omega
    have n2 : ¬ nI j = 2 := fun e => by have := (nI_eq (b := 2) hj (by decide)).mp e; omega
    have l : (13 : Int32) < nI j := nI_lt (a := 13) (by omega) hj
    exact Or.inr ⟨fun post hp => br_f n1 (br_f n2 (br_f (nI_pos hj) (br_t l hp))), fun post hp => br_f (nI_pos hj) (br_t l hp)⟩
  · have nn : ¬ nI o < 0 := nI_pos (by omega)
    have nl : ¬ (13 : Int32) < nI o := nI_nlt (a := 13) (by omega) (by decide)
    by_cases o12 : o = 1 ∨ o = 2
    · rcases pk_ix y (n := 4) (by decide) with h | h | ⟨j, hj, rfl⟩
      · refine Or.inr ⟨fun post hp => ?_, fun post hp => ?_⟩
        · have f : wX_isInstruction_10 post y (nI c) pf tt oo oc op ns ha fa pl lo ce la := sc_xloc0 (Or.inl h) ⟨rfl, hp⟩
          rcases o12 with rfl | rfl
          · exact br_t rfl f
          · exact br_f (by decide) (br_t rfl f)
        · have f : wY_bad_20 post y (nI c) oc aa tn tt oo op ns co ce ly ls := br_t h hp
          rcases o12 with rfl | rfl
          · exact br_f nn (br_f nl (br_t rfl f))
          · exact br_f nn (br_f nl (br_f (by decide) (br_t rfl f)))
      · refine Or.inr ⟨fun post hp => ?_, fun post hp => ?_⟩
        · have f : wX_isInstruction_10 post y (nI c) pf tt oo oc op ns ha fa pl lo ce la := sc_xloc0 (Or.inr h) ⟨rfl, hp⟩
          rcases o12 with rfl | rfl
          · exact br_t rfl f
          · exact br_f (by decide) (br_t rfl f)
        · obtain ⟨j, hj, h4, rfl⟩ := sc_le_nI (by decide) h
          have f : wY_bad_20 post (nI j) (nI c) oc aa tn tt oo op ns co ce ly ls := br_f (nI_pos hj) (br_f (nI_ge (a := 3) (by omega) hj) hp)
          rcases o12 with rfl | rfl
          · exact br_f nn (br_f nl (br_t rfl f))
          · exact br_f nn (br_f nl (br_f (by decide) (br_t rfl f)))
      · refine Or.inl ⟨o, ho, rfl, fun _ => ⟨j, hj, rfl⟩, fun post hp => ?_, fun post hp => ?_⟩
        · have f : wX_isInstruction_10 post (nI j) (nI c) pf tt oo oc op ns ha fa pl lo ce la := sc_xloc1 hj ⟨rfl, hp⟩
          rcases o12 with rfl | rfl
          · exact br_t rfl f
          · exact br_f (by decide) (br_t rfl f)
        · have f : wY_bad_20 post (nI j) (nI c) oc aa tn tt oo op ns co ce ly ls := br_f (nI_pos (by omega)) (br_t (nI_le (b := 3) (by omega) (by decide)) hp)
          rcases o12 with rfl | rfl
          · exact br_f nn (br_f nl (br_t rfl f))
          · exact br_f nn (br_f nl (br_f (by decide) (br_t rfl f)))
    · have n1 : ¬ nI o = 1 := fun e => o12 (Or.inl ((nI_eq (b := 1) (by omega) (by decide)).mp e))
      have n2 : ¬ nI o = 2 := fun e => o12 (Or.inr ((nI_eq (b := 2) (by omega) (by decide)).mp e))
      exact Or.inl ⟨o, ho, rfl, fun z => absurd z o12, fun post hp => br_f n1 (br_f n2 (br_f nn (br_f nl hp))), fun post hp => br_f nn (br_f nl (br_f n1 (br_f n2 hp)))⟩
end
end
section
/-! what is owed -/
theorem i_up {k : Nat} {u : SX} {v : SY} (h : i_Rel k u v) : i_Rel (k + 4) u v := h
theorem i_vc0 : wpX_init (fun u => wpY_init (fun v => i_Rel 0 u v)) := by
  unfold wpX_init
  refine sc_xforget 0 ?_
  exact sc_rel0 (k := 0) (c := 0) (oc := 0) (by omega) (fun p hp => absurd hp (by omega)) (sc_T_0 _ _ _ _) ⟨fun _ _ => rfl, Or.inl ⟨rfl, fun _ _ => rfl⟩⟩
theorem i_vc_emit {k : Nat} {u : SX} {v : SY} (I : i_Rel k u v) (hk : k + 4 ≤ 2048) (v1 : Int32) (v2 : Int32) : wpX_emit (fun r u' => wpY_emit (fun r' v' => r' = r ∧ i_Rel (k + 4) u' v') v v1 v2) u v1 v2 := by
  obtain ⟨c, t, ou, pf, oc, aa, tn, op, ns, ha, fa, pl, lo, ce, la, co, ly, ls, rfl, rfl, hc, ht, hou, hI, hT, hG, hH⟩ := I
  unfold wpX_emit
  dsimp only
  rcases sc_instr (c := c) (pf := pf) (oc := oc) (aa := aa) (tn := tn) (tt := nI t) (oo := nI ou) (op := op) (ns := ns) (ha := ha) (fa := fa) (pl := pl) (lo := lo) (ce := ce) (la := la) (co := co) (ly := ly) (ls := ls) v1 v2 with ⟨o, ho, rfl, hn, wx, wy⟩ | ⟨wx, wy⟩
  · refine wx _ (br_f (by decide) ?_)
    by_cases c20 : c < 20
    · have lt : nI c < 20 := nI_lt (b := 20) c20 (by decide)
      have vc : vp_in (nI c) 20 := vp_in_nI c20 (by omega)
      have I' : sc_I (c + 1) (upd op c (nI o)) (upd ns c v2) := sc_I_u hI ho hn (fun p hp hne => by omega)
      obtain ⟨f', ha', fa', pl', T', wj⟩ := sc_xjudge (c := c + 1) (pf := pf) (tt := nI t) (oo := nI ou) (oc := oc) (ha := ha) (fa := fa) (pl := pl) (lo := lo) (ce := ce) (la := la) (by omega) (by omega) I'
      refine br_t lt (nm_r (nI_1 c) ⟨vc, nm_r (e' := upd op c (nI o)) (by rw [nI_clamp (by omega)]) ⟨vc, nm_r (e' := upd ns c v2) (by rw [nI_clamp (by omega)]) ?_⟩⟩)
      refine wj _ (sc_xforget _ ?_)
      show wpY_emit _ _ _ _
      unfold wpY_emit
      dsimp only
      refine wy _ (br_t rfl (br_t lt ⟨vc, nm_r (e' := upd op c (nI o)) (by rw [nI_clamp (by omega)]) ⟨vc, nm_r (e' := upd ns c v2) (by rw [nI_clamp (by omega)]) (nm_r (nI_1 c) ?_)⟩⟩))
      exact ⟨nI_pred c, sc_rel0 (by omega) I' T' hH⟩
    · have nlt : ¬ nI c < 20 := nI_nlt (b := 20) (by omega) (by omega)
      refine br_f nlt ?_
      show wpY_emit _ _ _ _
      unfold wpY_emit
      dsimp only
      exact wy _ (br_t rfl (br_f nlt ⟨rfl, sc_rel hc ht hou hI hT hG hH⟩))
  · refine wx _ (br_t rfl ?_)
    show wpY_emit _ _ _ _
    unfold wpY_emit
    dsimp only
    exact wy _ (br_f (by decide) ⟨rfl, sc_rel hc ht hou hI hT hG hH⟩)
theorem i_vc_patch {k : Nat} {u : SX} {v : SY} (I : i_Rel k u v) (hk : k + 4 ≤ 2048) (v1 : Int32) (v2 : Int32) (v3 : Int32) : wpX_patch (fun r u' => wpY_patch (fun r' v' => r' = r ∧ i_Rel (k + 4) u' v') v v1 v2 v3) u v1 v2 v3 := by
  obtain ⟨c, t, ou, pf, oc, aa, tn, op, ns, ha, fa, pl, lo, ce, la, co, ly, ls, rfl, rfl, hc, ht, hou, hI, hT, hG, hH⟩ := I
  unfold wpX_patch
  dsimp only
  by_cases i : 0 ≤ v1 ∧ v1 < nI c
  · obtain ⟨q, hq, rfl⟩ := (sc_ins c hc v1).mp i
    have vq : vp_in (nI q) 20 := vp_in_nI (by omega) (by omega)
    have a0 : ¬ nI q < 0 := nI_pos (by omega)
    have a1 : ¬ nI c ≤ nI q := nI_ge hq (by omega)
    refine sc_xpos1 hc hq (br_f (by decide) ?_)
    rcases sc_instr (c := c) (pf := pf) (oc := oc) (aa := aa) (tn := tn) (tt := nI t) (oo := nI ou) (op := op) (ns := ns) (ha := ha) (fa := fa) (pl := pl) (lo := lo) (ce := ce) (la := la) (co := co) (ly := ly) (ls := ls) v2 v3 with ⟨o, ho, rfl, hn, wx, wy⟩ | ⟨wx, wy⟩
    · have I' : sc_I c (upd op q (nI o)) (upd ns q v3) := sc_I_u hI ho hn (fun p hp _ => hp)
      obtain ⟨f', ha', fa', pl', T', wj⟩ := sc_xjudge (c := c) (pf := pf) (tt := nI t) (oo := nI ou) (oc := oc) (ha := ha) (fa := fa) (pl := pl) (lo := lo) (ce := ce) (la := la) (by omega) hc I'
      refine wx _ (br_f (by decide) ⟨vq, nm_r (e' := upd op q (nI o)) (by rw [nI_clamp (by omega)]) ⟨vq, nm_r (e' := upd ns q v3) (by rw [nI_clamp (by omega)]) ?_⟩⟩)
      refine wj _ (sc_xforget _ ?_)
      refine br_f a0 (br_f a1 (wy _ (br_t rfl ⟨vq, nm_r (e' := upd op q (nI o)) (by rw [nI_clamp (by omega)]) ⟨vq, nm_r (e' := upd ns q v3) (by rw [nI_clamp (by omega)]) ?_⟩⟩)))
      exact ⟨rfl, sc_rel0 hc I' T' hH⟩
    · refine wx _ (br_t rfl ?_)
      exact br_f a0 (br_f a1 (wy _ (br_f (by decide) ⟨rfl, sc_rel hc ht hou hI hT hG hH⟩)))
  · refine sc_xpos0 i (br_t rfl ?_)
    by_cases a : v1 < 0
    · exact br_t a ⟨rfl, sc_rel hc ht hou hI hT hG hH⟩
    · exact br_f a (br_t (Decidable.byContradiction fun n => i ⟨Int32.not_lt.mp a, Int32.not_le.mp n⟩) ⟨rfl, sc_rel hc ht hou hI hT hG hH⟩)
theorem i_vc_clear {k : Nat} {u : SX} {v : SY} (I : i_Rel k u v) (hk : k + 4 ≤ 2048) : wpX_clear (fun u' => wpY_clear (fun v' => i_Rel (k + 4) u' v') v) u := by
  obtain ⟨c, t, ou, pf, oc, aa, tn, op, ns, ha, fa, pl, lo, ce, la, co, ly, ls, rfl, rfl, hc, ht, hou, hI, hT, hG, hH⟩ := I
  unfold wpX_clear
  dsimp only
  refine sc_xforget 0 ?_
  exact sc_rel0 (k := k + 4) (c := 0) (by omega) (fun p hp => absurd hp (by omega)) (sc_T_0 _ _ _ _) hH
theorem i_vc_length {k : Nat} {u : SX} {v : SY} (I : i_Rel k u v) (hk : k + 4 ≤ 2048) : wpX_length (fun r => wpY_length (fun r' => r' = r ∧ i_Rel (k + 4) u v) v) u := by
  have J := i_up I
  obtain ⟨c, t, ou, pf, oc, aa, tn, op, ns, ha, fa, pl, lo, ce, la, co, ly, ls, rfl, rfl, hc, ht, hou, hI, hT, hG, hH⟩ := I
  exact ⟨rfl, J⟩
theorem i_vc_fits {k : Nat} {u : SX} {v : SY} (I : i_Rel k u v) (hk : k + 4 ≤ 2048) : wpX_fits (fun r => wpY_fits (fun r' v' => r' = r ∧ i_Rel (k + 4) u v') v) u := by
  obtain ⟨c, t, ou, pf, oc, aa, tn, op, ns, ha, fa, pl, lo, ce, la, co, ly, ls, rfl, rfl, hc, ht, hou, hI, hT, hG, hH⟩ := I
  obtain ⟨W, hP, hW⟩ := hT
  obtain ⟨co', wy⟩ := sc_yfits (oc := oc) (aa := aa) (tn := tn) (tt := nI t) (oo := nI ou) (co := co) (ce := ce) (ly := ly) (ls := ls) hc hI hP
  exact sc_xfits hc (fun p hp => (hW p hp).2) (wy _ ⟨rfl, sc_rel hc ht hou hI ⟨W, hP, hW⟩ hG hH⟩)
theorem i_vc_faults {k : Nat} {u : SX} {v : SY} (I : i_Rel k u v) (hk : k + 4 ≤ 2048) (v1 : Int32) : wpX_faults (fun r => wpY_faults (fun r' v' => r' = r ∧ i_Rel (k + 4) u v') v v1) u v1 := by
  obtain ⟨c, t, ou, pf, oc, aa, tn, op, ns, ha, fa, pl, lo, ce, la, co, ly, ls, rfl, rfl, hc, ht, hou, hI, hT, hG, hH⟩ := I
  have hT' := hT
  obtain ⟨W, hP, hW⟩ := hT
  unfold wpX_faults
  dsimp only
  by_cases i : 0 ≤ v1 ∧ v1 < nI c
  · obtain ⟨q, hq, rfl⟩ := (sc_ins c hc v1).mp i
    have vq : vp_in (nI q) 20 := vp_in_nI (by omega) (by omega)
    obtain ⟨co', wy⟩ := sc_yfaults (oc := oc) (aa := aa) (tn := tn) (tt := nI t) (oo := nI ou) (co := co) (ce := ce) (ly := ly) (ls := ls) hc hI hP hq
    refine sc_xpos1 hc hq (br_f (by decide) ⟨vq, wy _ ⟨?_, sc_rel hc ht hou hI hT' hG hH⟩⟩)
    rw [nI_clamp (by omega)]
    exact (hW q hq).2.symm
  · obtain ⟨co', wy⟩ := sc_yfaults0 (oc := oc) (aa := aa) (tn := tn) (tt := nI t) (oo := nI ou) (co := co) (ce := ce) (ly := ly) (ls := ls) hc hI i
    exact sc_xpos0 i (br_t rfl (wy _ ⟨rfl, sc_rel hc ht hou hI hT' hG hH⟩))
theorem i_vc_heights {k : Nat} {u : SX} {v : SY} (I : i_Rel k u v) (hk : k + 4 ≤ 2048) (v1 : Int32) : wpX_heights (fun r => wpY_heights (fun r' v' => r' = r ∧ i_Rel (k + 4) u v') v v1) u v1 := by
  obtain ⟨c, t, ou, pf, oc, aa, tn, op, ns, ha, fa, pl, lo, ce, la, co, ly, ls, rfl, rfl, hc, ht, hou, hI, hT, hG, hH⟩ := I
  have hT' := hT
  obtain ⟨W, hP, hW⟩ := hT
  obtain ⟨W', co', R, wy⟩ := sc_yfollow (oc := oc) (aa := aa) (tn := tn) (tt := nI t) (oo := nI ou) (co := co) (ce := ce) (ly := ly) (ls := ls) hc hI
  unfold wpX_heights
  dsimp only
  by_cases i : 0 ≤ v1 ∧ v1 < nI c
  · obtain ⟨q, hq, rfl⟩ := (sc_ins c hc v1).mp i
    have vq : vp_in (nI q) 20 := vp_in_nI (by omega) (by omega)
    refine sc_xpos1 hc hq (br_f (by decide) ⟨vq, ?_⟩)
    unfold wpY_heights
    dsimp only
    refine wy _ (sc_yin1 hc hq (br_f (by decide) ⟨vq, ?_, sc_rel hc ht hou hI hT' hG hH⟩))
    rw [nI_clamp (by omega)]
    show co' q = ha q
    rw [(R.1 q (by omega)).2, (hW q hq).1, sc_Pic_u (sc_o op) ns c hP R.2 hq]
  · refine sc_xpos0 i (br_t rfl ?_)
    unfold wpY_heights
    dsimp only
    exact wy _ (sc_yin0 i (br_t rfl ⟨rfl, sc_rel hc ht hou hI hT' hG hH⟩))
theorem i_vc_run {k : Nat} {u : SX} {v : SY} (I : i_Rel k u v) (hk : k + 4 ≤ 2048) (v1 : Int32) (v2 : Int32) : wpX_run (fun r u' => wpY_run (fun r' v' => r' = r ∧ i_Rel (k + 4) u' v') v v1 v2) u v1 v2 := by
  obtain ⟨c, t, ou, pf, oc, aa, tn, op, ns, ha, fa, pl, lo, ce, la, co, ly, ls, rfl, rfl, hc, ht, hou, hI, hT, hG, hH⟩ := I
  have hT' := hT
  obtain ⟨W, hP, hW⟩ := hT
  obtain ⟨co', wy⟩ := sc_yfits (oc := oc) (aa := aa) (tn := tn) (tt := nI t) (oo := nI ou) (co := co) (ce := ce) (ly := ly) (ls := ls) hc hI hP
  unfold wpX_run
  dsimp only
  refine sc_xfits hc (fun p hp => (hW p hp).2) ?_
  by_cases ft : 0 < c ∧ sc_ou (sc_F (sc_o op) ns c W) c = 0
  · have e : ¬ sc_fit op ns c W = 0 := by
      unfold sc_fit
      rw [if_pos ft]
      decide
    obtain ⟨r, t', ou', aa', tn', lo', ce', la', ls', g1, g2, g3, g4, rx, ry⟩ := sc_run (pf := pf) (ha := ha) (fa := fa) (pl := pl) (co := co') hc hI hP (sc_ou_0 ft.2) 820 0 0 0 0 0 (upd (upd (sc_l0 lo) 0 v1) 1 v2) ce la ls (by omega) ft.1 (by omega) (sc_R0 (sc_o op) ns c) (by omega) (by omega) (by omega) (sc_G_0 _ _)
    refine br_f e (sc_xforget (nI c) (nm_e (nm_e ⟨821, rx _ ?_⟩)))
    show wpY_run _ _ _ _
    unfold wpY_run
    dsimp only
    refine wy _ (br_f e ?_)
    refine nm_e (nm_e (nm_e (nm_r (sc_loc hH.1 v1 v2).symm ⟨822, ry _ ⟨rfl, ?_⟩⟩)))
    exact sc_rel hc g2 g3 hI hT' g4 ⟨fun _ _ => rfl, Or.inr ⟨g1, rfl⟩⟩
  · have e : sc_fit op ns c W = 0 := by
      unfold sc_fit
      rw [if_neg ft]
    refine br_t e ?_
    show wpY_run _ _ _ _
    unfold wpY_run
    dsimp only
    exact wy _ (br_t e ⟨rfl, sc_rel hc ht hou hI hT' hG hH⟩)
theorem i_vc_outcome {k : Nat} {u : SX} {v : SY} (I : i_Rel k u v) (hk : k + 4 ≤ 2048) : wpX_outcome (fun r => wpY_outcome (fun r' => r' = r ∧ i_Rel (k + 4) u v) v) u := by
  have J := i_up I
  obtain ⟨c, t, ou, pf, oc, aa, tn, op, ns, ha, fa, pl, lo, ce, la, co, ly, ls, rfl, rfl, hc, ht, hou, hI, hT, hG, hH⟩ := I
  exact ⟨rfl, J⟩
theorem i_vc_outs {k : Nat} {u : SX} {v : SY} (I : i_Rel k u v) (hk : k + 4 ≤ 2048) : wpX_outs (fun r => wpY_outs (fun r' => r' = r ∧ i_Rel (k + 4) u v) v) u := by
  have J := i_up I
  obtain ⟨c, t, ou, pf, oc, aa, tn, op, ns, ha, fa, pl, lo, ce, la, co, ly, ls, rfl, rfl, hc, ht, hou, hI, hT, hG, hH⟩ := I
  exact ⟨rfl, J⟩
theorem i_vc_lastOut {k : Nat} {u : SX} {v : SY} (I : i_Rel k u v) (hk : k + 4 ≤ 2048) (v1 : Int32) : wpX_lastOut (fun r => wpY_lastOut (fun r' => r' = r ∧ i_Rel (k + 4) u v) v v1) u v1 := by
  have J := i_up I
  obtain ⟨c, t, ou, pf, oc, aa, tn, op, ns, ha, fa, pl, lo, ce, la, co, ly, ls, rfl, rfl, hc, ht, hou, hI, hT, hG, hH⟩ := I
  rcases pk_ix v1 (n := 8) (by decide) with h | h | ⟨j, hj, rfl⟩
  · exact br_t h (br_t h ⟨rfl, J⟩)
  · obtain ⟨j, hj, h8, rfl⟩ := sc_le_nI (by decide) h
    exact br_f (nI_pos hj) (br_t h (br_f (nI_pos hj) (br_t (nI_lt (a := 7) (by omega) hj) ⟨rfl, J⟩)))
  · have a0 : ¬ nI j < 0 := nI_pos (by omega)
    have a8 : ¬ (8 : Int32) ≤ nI j := nI_ge (b := 8) hj (by decide)
    have a7 : ¬ (7 : Int32) < nI j := nI_nlt (a := 7) (by omega) (by decide)
    by_cases l : j < ou
    · obtain ⟨m, rfl⟩ : ∃ m, ou = m + 1 := ⟨ou - 1, by omega⟩
      have e : ((nI (m + 1) - 1) - nI j) - ((nI (m + 1) - 1) - nI j) / 8 * 8 = nI ((m - j) % 8) := by
        rw [nI_pred, pk_sub (by omega)]
        exact pk_rem (d := 8) (by omega) (by omega) (by omega)
      refine br_f a0 (br_f a8 (br_t (nI_lt l (by omega)) ⟨by decide, ?_⟩))
      rw [e]
      refine ⟨vp_in_nI (by omega) (by omega), br_f a0 (br_f a7 (br_f (nI_ge l (by omega)) ⟨vp_in_nI hj (by omega), ?_, J⟩))⟩
      rw [nI_clamp (by omega), nI_clamp (by omega)]
      exact (hG j hj l).symm
    · exact br_f a0 (br_f a8 (br_f (nI_nlt (by omega) (by omega)) (br_f a0 (br_f a7 (br_t (nI_le (by omega) (by omega)) ⟨rfl, J⟩)))))
theorem i_vc_local {k : Nat} {u : SX} {v : SY} (I : i_Rel k u v) (hk : k + 4 ≤ 2048) (v1 : Int32) : wpX_local (fun r => wpY_local (fun r' => r' = r ∧ i_Rel (k + 4) u v) v v1) u v1 := by
  have J := i_up I
  obtain ⟨c, t, ou, pf, oc, aa, tn, op, ns, ha, fa, pl, lo, ce, la, co, ly, ls, rfl, rfl, hc, ht, hou, hI, hT, hG, hH⟩ := I
  unfold wpX_local
  dsimp only
  rcases pk_ix v1 (n := 4) (by decide) with h | h | ⟨j, hj, rfl⟩
  · exact sc_xloc0 (Or.inl h) (br_t rfl (br_c (fun _ => ⟨rfl, J⟩) (fun _ => br_t h ⟨rfl, J⟩)))
  · refine sc_xloc0 (Or.inr h) (br_t rfl ?_)
    obtain ⟨j, hj, h4, rfl⟩ := sc_le_nI (by decide) h
    exact br_c (fun _ => ⟨rfl, J⟩) (fun _ => br_f (nI_pos hj) (br_t (nI_lt (a := 3) (by omega) hj) ⟨rfl, J⟩))
  · have a0 : ¬ nI j < 0 := nI_pos (by omega)
    have a3 : ¬ (3 : Int32) < nI j := nI_nlt (a := 3) (by omega) (by decide)
    have vj : vp_in (nI j) 4 := vp_in_nI hj (by omega)
    refine sc_xloc1 hj (br_f (by decide) ⟨vj, ?_⟩)
    rw [nI_clamp (by omega)]
    rcases hH.2 with ⟨z, f⟩ | ⟨z, f⟩
    · exact br_t z ⟨(f j hj).symm, J⟩
    · refine br_f z (br_f a0 (br_f a3 ⟨vj, ?_, J⟩))
      rw [nI_clamp (by omega), f]
theorem i_vc_height {k : Nat} {u : SX} {v : SY} (I : i_Rel k u v) (hk : k + 4 ≤ 2048) : wpX_height (fun r => wpY_height (fun r' => r' = r ∧ i_Rel (k + 4) u v) v) u := by
  have J := i_up I
  obtain ⟨c, t, ou, pf, oc, aa, tn, op, ns, ha, fa, pl, lo, ce, la, co, ly, ls, rfl, rfl, hc, ht, hou, hI, hT, hG, hH⟩ := I
  exact ⟨rfl, J⟩
theorem i_vc_cell {k : Nat} {u : SX} {v : SY} (I : i_Rel k u v) (hk : k + 4 ≤ 2048) (v1 : Int32) : wpX_cell (fun r => wpY_cell (fun r' => r' = r ∧ i_Rel (k + 4) u v) v v1) u v1 := by
  have J := i_up I
  obtain ⟨c, t, ou, pf, oc, aa, tn, op, ns, ha, fa, pl, lo, ce, la, co, ly, ls, rfl, rfl, hc, ht, hou, hI, hT, hG, hH⟩ := I
  rcases pk_ix v1 (n := t) (by omega) with h | h | ⟨j, hj, rfl⟩
  · exact br_t h (br_t h ⟨rfl, J⟩)
  · have a : ¬ v1 < 0 := Int32.not_lt.mpr (Int32.le_trans (nI_pos' (by omega)) h)
    exact br_f a (br_t h (br_f a (br_t h ⟨rfl, J⟩)))
  · have a0 : ¬ nI j < 0 := nI_pos (by omega)
    have a1 : ¬ nI t ≤ nI j := nI_ge hj (by omega)
    have vj : vp_in (nI j) 6 := vp_in_nI (by omega) (by omega)
    exact br_f a0 (br_f a1 ⟨vj, br_f a0 (br_f a1 ⟨vj, rfl, J⟩)⟩)
end
