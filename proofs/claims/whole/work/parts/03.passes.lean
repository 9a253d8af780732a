/-! the reference's picture while it goes over all places, pass by pass -/
def sc_Y (W : Nat → Nat) (co : Nat → Int32) : Prop := ∀ p, p < 20 → W p < 128 ∧ co p = nI (W p)
theorem sc_Y_new {W : Nat → Nat} {co : Nat → Int32} (Y : sc_Y W co) {q g : Nat} (hq : q < 20) (hg : g < 7) : sc_Y (sc_st W q g) (upd co q (nI (W q ||| 2 ^ g))) := by
  intro p hp
  refine ⟨sc_st_l hg (Y p hp).1 (Y q hq).1, ?_⟩
  by_cases e : p = q
  · rw [e, pk_us, sc_st_s]
  · rw [pk_un e, sc_st_n W e]; exact (Y p hp).2
/-- W' holds P besides W; d says whether something is new -/
def sc_Q (W W' : Nat → Nat) (d : Nat) (P : Nat → Nat → Prop) : Prop :=
  d ≤ 1 ∧ (d = 0 → W' = W) ∧ sc_ca W 20 + d ≤ sc_ca W' 20 ∧
  ∀ q g, q < 20 → g < 7 → ((W' q).testBit g = true ↔ ((W q).testBit g = true ∨ P q g))
theorem sc_Q_0 {W : Nat → Nat} {P : Nat → Nat → Prop} (h : ∀ q g, q < 20 → g < 7 → P q g → (W q).testBit g = true) : sc_Q W W 0 P :=
  ⟨by omega, fun _ => rfl, by omega, fun q g hq hg => ⟨Or.inl, fun b => b.elim id (h q g hq hg)⟩⟩
theorem sc_Q_1 {W : Nat → Nat} {P : Nat → Nat → Prop} {q g : Nat} (hq : q < 20) (hg : g < 7) (z : ¬ (W q).testBit g = true) (h : ∀ q' g', q' < 20 → g' < 7 → (P q' g' ↔ (q' = q ∧ g' = g))) : sc_Q W (sc_st W q g) 1 P :=
  ⟨by omega, fun e => absurd e (by omega), by rw [sc_ca_in hq hg z]; omega, fun q' g' hq' hg' => by rw [sc_st_b, h q' g' hq' hg']⟩
theorem sc_Q_c {W V U : Nat → Nat} {d1 d2 : Nat} {P1 P2 P : Nat → Nat → Prop} (a : sc_Q W V d1 P1) (b : sc_Q V U d2 P2) (h : ∀ q g, q < 20 → g < 7 → (P q g ↔ (P1 q g ∨ P2 q g))) : sc_Q W U (if d1 = 0 then d2 else 1) P := by
  obtain ⟨a1, a2, a3, a4⟩ := a
  obtain ⟨b1, b2, b3, b4⟩ := b
  by_cases z : d1 = 0
  · rw [if_pos z]
    refine ⟨b1, fun e => (b2 e).trans (a2 z), by omega, fun q g hq hg => ?_⟩
    rw [b4 q g hq hg, a4 q g hq hg, h q g hq hg, or_assoc]
  · rw [if_neg z]
    refine ⟨by omega, fun e => absurd e (by omega), by omega, fun q g hq hg => ?_⟩
    rw [b4 q g hq hg, a4 q g hq hg, h q g hq hg, or_assoc]
section
variable (O : Nat → Nat) (M : Nat → Int32) (c : Nat)
/-- within a pass, ahead of the place e: b says whether the pass found something -/
def sc_V (K : Nat) (W : Nat → Nat) (b e : Nat) (co : Nat → Int32) : Prop :=
  sc_Y W co ∧ b ≤ 1 ∧ (0 < c → (W 0).testBit 0 = true) ∧
  (∀ p h, p < c → h < 7 → (W p).testBit h = true → sc_R O M c p h) ∧
  (b = 0 → ∀ p h q g, p * 7 + h < e → p < c → h < 7 → (W p).testBit h = true → sc_E O M c p h q g → (W q).testBit g = true) ∧
  K + b ≤ sc_ca W 20
theorem sc_V_n (hc : c ≤ 20) {K : Nat} {W : Nat → Nat} {b p h : Nat} {co : Nat → Int32} (V : sc_V O M c K W b (p * 7 + h) co) (hh : h < 7)
    (z : ∀ q g, (W p).testBit h = true → ¬ sc_E O M c p h q g) : sc_V O M c K W b (p * 7 + h + 1) co := by
  obtain ⟨v1, v2, v3, v4, v5, v6⟩ := V
  refine ⟨v1, v2, v3, v4, fun hb p' h' q g l hp' hh' w hE => ?_, v6⟩
  by_cases e : p' * 7 + h' = p * 7 + h
  · have e1 : p' = p := by omega
    have e2 : h' = h := by omega
    rw [e1, e2] at hE w
    exact absurd hE (z q g w)
  · exact v5 hb p' h' q g (by omega) hp' hh' w hE
theorem sc_V_s (hc : c ≤ 20) {K : Nat} {W W' : Nat → Nat} {b p h d : Nat} {co co' : Nat → Int32} (V : sc_V O M c K W b (p * 7 + h) co) (hp : p < c) (hh : h < 7)
    (w : (W p).testBit h = true) (Q : sc_Q W W' d (fun q g => sc_E O M c p h q g)) (Y' : sc_Y W' co') :
    sc_V O M c K W' (if b = 0 then d else 1) (p * 7 + h + 1) co' := by
  obtain ⟨v1, v2, v3, v4, v5, v6⟩ := V
  obtain ⟨q1, q2, q3, q4⟩ := Q
  refine ⟨Y', ?_, fun h0 => (q4 0 0 (by omega) (by omega)).mpr (Or.inl (v3 h0)), ?_, ?_, ?_⟩
  · split <;> omega
  · intro q g hq hg x
    rcases (q4 q g (by omega) hg).mp x with x | x
    · exact v4 q g hq hg x
    · exact sc_Rs O M c hp hh (v4 p h hp hh w) x
  · intro hb p' h' q g l hp' hh' x hE
    have hb0 : b = 0 := by
      by_cases e : b = 0
      · exact e
      · rw [if_neg e] at hb; omega
    rw [if_pos hb0] at hb
    have eW := q2 hb
    by_cases e : p' * 7 + h' = p * 7 + h
    · have e1 : p' = p := by omega
      have e2 : h' = h := by omega
      rw [e1, e2] at hE
      have r := sc_Eb O M c hE
      exact (q4 q g (by omega) r.2).mpr (Or.inr hE)
    · rw [eW] at x ⊢
      exact v5 hb0 p' h' q g (by omega) hp' hh' x hE
  · split <;> omega
/-- the next pass -/
theorem sc_V_p {K : Nat} {W : Nat → Nat} {e : Nat} {co : Nat → Int32} (V : sc_V O M c K W 1 e co) : sc_V O M c (K + 1) W 0 0 co := by
  obtain ⟨v1, v2, v3, v4, v5, v6⟩ := V
  exact ⟨v1, by omega, v3, v4, fun _ p h q g l => absurd l (by omega), by omega⟩
theorem sc_V_le {K : Nat} {W : Nat → Nat} {b e : Nat} {co : Nat → Int32} (V : sc_V O M c K W b e co) : K ≤ 140 := by
  have a := V.2.2.2.2.2
  have b := sc_ca_le W 20
  omega
/-- the last pass -/
theorem sc_V_e (hc : c ≤ 20) {K : Nat} {W : Nat → Nat} {co : Nat → Int32} (V : sc_V O M c K W 0 (7 * c) co) : sc_Y W co ∧ sc_Pic O M c W := by
  obtain ⟨v1, v2, v3, v4, v5, v6⟩ := V
  refine ⟨v1, ?_⟩
  by_cases z : 0 < c
  · exact sc_Pic_of O M c (fun p hp => (v1 p (by omega)).1) (v3 z) v4 (fun p h q g hp hh => v5 rfl p h q g (by omega) hp hh)
  · intro p hp; omega
end
