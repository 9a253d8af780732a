/-! the last eight outputs: a ring at the component, a shifted row at the reference; the relation -/
def sc_G (o : Nat) (la ls : Nat → Int32) : Prop := ∀ k, k < 8 → k < o → la ((o - 1 - k) % 8) = ls k
theorem sc_G_0 (la ls : Nat → Int32) : sc_G 0 la ls := fun _ _ h => absurd h (Nat.not_lt_zero _)
theorem sc_G_s {o : Nat} {la ls ms : Nat → Int32} {x : Int32} (G : sc_G o la ls) (h : ∀ k, k < 8 → ms k = if k = 0 then x else ls (k - 1)) : sc_G (o + 1) (upd la (o % 8) x) ms := by
  intro k hk ho
  rw [h k hk]
  by_cases z : k = 0
  · have e : (o + 1 - 1 - k) % 8 = o % 8 := by rw [z]; rfl
    rw [if_pos z, e, pk_us]
  · have n : (o + 1 - 1 - k) % 8 ≠ o % 8 := by omega
    have e : (o + 1 - 1 - k) % 8 = (o - 1 - (k - 1)) % 8 := by omega
    rw [if_neg z, pk_un n, e]
    exact G (k - 1) (by omega) (by omega)
/-- the operations as numbers -/
def sc_o (op : Nat → Int32) : Nat → Nat := fun p => (op p).toNatClampNeg
/-- each position holds an instruction -/
def sc_I (c : Nat) (op ns : Nat → Int32) : Prop :=
  ∀ p, p < c → op p = nI (sc_o op p) ∧ sc_o op p < 14 ∧ (sc_o op p = 1 ∨ sc_o op p = 2 → ∃ j, j < 4 ∧ ns p = nI j)
theorem sc_I_u {c : Nat} {op ns : Nat → Int32} (I : sc_I c op ns) {q o : Nat} {n : Int32} (ho : o < 14) (hn : o = 1 ∨ o = 2 → ∃ j, j < 4 ∧ n = nI j) {d : Nat} (hd : ∀ p, p < d → p ≠ q → p < c) :
    sc_I d (upd op q (nI o)) (upd ns q n) := by
  intro p hp
  by_cases e : p = q
  · have z : sc_o (upd op q (nI o)) p = o := by
      unfold sc_o
      rw [e, pk_us, nI_clamp (by omega)]
    rw [z, e, pk_us, pk_us]
    exact ⟨rfl, ho, hn⟩
  · have z : sc_o (upd op q (nI o)) p = sc_o op p := by
      unfold sc_o
      rw [pk_un e]
    rw [z, pk_un e, pk_un e]
    exact I p (hd p hp e)
/-- the component's two tables are those of the walks -/
def sc_T (c : Nat) (op ns ha fa : Nat → Int32) : Prop :=
  ∃ W : Nat → Nat, sc_Pic (sc_o op) ns c W ∧ ∀ p, p < c → ha p = nI (W p) ∧ fa p = nI (sc_F (sc_o op) ns c W p)
theorem sc_T_0 (op ns ha fa : Nat → Int32) : sc_T 0 op ns ha fa := ⟨fun _ => 0, fun _ hp => absurd hp (Nat.not_lt_zero _), fun _ hp => absurd hp (Nat.not_lt_zero _)⟩
/-- the locals: forgotten, or the same -/
def sc_H (oc : Int32) (lx ly : Nat → Int32) : Prop :=
  (∀ i, 4 ≤ i → lx i = ly i) ∧ ((oc = 0 ∧ ∀ i, i < 4 → lx i = 0) ∨ (¬ oc = 0 ∧ lx = ly))
