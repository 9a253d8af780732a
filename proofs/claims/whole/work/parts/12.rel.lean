/-! the relation, and what the owed statements need besides -/
/-- one program, one run, one row of outputs; the component's tables are those of the walks; locals forgotten or the same -/
def i_Rel (k : Nat) (u : SX) (v : SY) : Prop :=
  ∃ (c t ou : Nat) (pf oc aa tn : Int32) (op ns ha fa pl lo ce la co ly ls : Nat → Int32),
    u = (nI c, pf, nI t, nI ou, oc, op, ns, ha, fa, pl, lo, ce, la) ∧ v = (nI c, oc, aa, tn, nI t, nI ou, op, ns, co, ce, ly, ls) ∧
    c ≤ 20 ∧ t < 7 ∧ ou ≤ 1000 ∧ sc_I c op ns ∧ sc_T c op ns ha fa ∧ sc_G ou la ls ∧ sc_H oc lo ly
theorem sc_H_0 {oc : Int32} {lo ly : Nat → Int32} (h : sc_H oc lo ly) : sc_H 0 (sc_l0 lo) ly :=
  ⟨fun i hi => (if_neg (by omega)).trans (h.1 i hi), Or.inl ⟨rfl, fun i hi => if_pos hi⟩⟩
theorem sc_loc {lo ly : Nat → Int32} (h : ∀ i, 4 ≤ i → lo i = ly i) (x y : Int32) :
    upd (upd (sc_l0 lo) 0 x) 1 y = upd (upd (upd (upd ly 0 x) 1 y) 2 0) 3 0 := by
  funext i
  by_cases e3 : i = 3
  · subst e3; rfl
  · by_cases e2 : i = 2
    · subst e2; rfl
    · rw [pk_un (k := 3) e3, pk_un (k := 2) e2]
      by_cases e1 : i = 1
      · rw [e1, pk_us, pk_us]
      · rw [pk_un (k := 1) e1, pk_un (k := 1) e1]
        by_cases e0 : i = 0
        · rw [e0, pk_us, pk_us]
        · rw [pk_un (k := 0) e0, pk_un (k := 0) e0]
          exact (if_neg (by omega)).trans (h i (by omega))
section
variable {k c t ou : Nat} {pf oc aa tn tt oo : Int32} {op ns ha fa pl lo ce la co ly ls : Nat → Int32}
theorem sc_rel (hc : c ≤ 20) (ht : t < 7) (hou : ou ≤ 1000) (hI : sc_I c op ns) (hT : sc_T c op ns ha fa) (hG : sc_G ou la ls) (hH : sc_H oc lo ly) :
    i_Rel k (nI c, pf, nI t, nI ou, oc, op, ns, ha, fa, pl, lo, ce, la) (nI c, oc, aa, tn, nI t, nI ou, op, ns, co, ce, ly, ls) :=
  ⟨c, t, ou, pf, oc, aa, tn, op, ns, ha, fa, pl, lo, ce, la, co, ly, ls, rfl, rfl, hc, ht, hou, hI, hT, hG, hH⟩
/-- the run is forgotten -/
theorem sc_rel0 (hc : c ≤ 20) (hI : sc_I c op ns) (hT : sc_T c op ns ha fa) (hH : sc_H oc lo ly) :
    i_Rel k (nI c, pf, 0, 0, 0, op, ns, ha, fa, pl, sc_l0 lo, ce, la) (nI c, 0, aa, tn, 0, 0, op, ns, co, ce, ly, ls) :=
  sc_rel (t := 0) (ou := 0) hc (by omega) (by omega) hI hT (sc_G_0 _ _) (sc_H_0 hH)
theorem sc_xloc1 {post : Int32 → Prop} {j : Nat} (hj : j < 4) (h : post 1) : wpX_isLocal post (nI c, pf, tt, oo, oc, op, ns, ha, fa, pl, lo, ce, la) (nI j) :=
  br_f (nI_pos (by omega)) (br_f (nI_ge (b := 4) hj (by decide)) h)
theorem sc_xloc0 {post : Int32 → Prop} {x : Int32} (hx : x < 0 ∨ nI 4 ≤ x) (h : post 0) : wpX_isLocal post (nI c, pf, tt, oo, oc, op, ns, ha, fa, pl, lo, ce, la) x := by
  by_cases a : x < 0
  · exact br_t a h
  · exact br_f a (br_t (hx.elim (fun z => absurd z a) id) h)
theorem sc_le_nI {x : Int32} {n : Nat} (hn : n < 2 ^ 31) (h : nI n ≤ x) : ∃ j, j < 2 ^ 31 ∧ n ≤ j ∧ x = nI j := by
  have a : ¬ x < 0 := Int32.not_lt.mpr (Int32.le_trans (nI_pos' hn) h)
  obtain ⟨j, hj, rfl⟩ := nI_of a
  rw [nI_leI hn hj] at h
  exact ⟨j, hj, h, rfl⟩
/-- an instruction, or none: both sides say so -/
theorem sc_instr (x y : Int32) :
    (∃ o, o < 14 ∧ x = nI o ∧ (o = 1 ∨ o = 2 → ∃ j, j < 4 ∧ y = nI j) ∧ (∀ post : Int32 → Prop, post 1 → wpX_isInstruction post (nI c, pf, tt, oo, oc, op, ns, ha, fa, pl, lo, ce, la) x y) ∧ (∀ post : Int32 → Prop, post 0 → wpY_bad post (nI c, oc, aa, tn, tt, oo, op, ns, co, ce, ly, ls) x y)) ∨
    ((∀ post : Int32 → Prop, post 0 → wpX_isInstruction post (nI c, pf, tt, oo, oc, op, ns, ha, fa, pl, lo, ce, la) x y) ∧ (∀ post : Int32 → Prop, post 1 → wpY_bad post (nI c, oc, aa, tn, tt, oo, op, ns, co, ce, ly, ls) x y)) := by
  rcases pk_ix x (n := 14) (by decide) with h | h | ⟨o, ho, rfl⟩
  · have n1 : ¬ x = 1 := fun e => by rw [e] at h; revert h; decide
    have n2 : ¬ x = 2 := fun e => by rw [e] at h; revert h; decide
    exact Or.inr ⟨fun post hp => br_f n1 (br_f n2 (br_t h hp)), fun post hp => br_t h hp⟩
  · obtain ⟨j, hj, h14, rfl⟩ := sc_le_nI (by decide) h
    have n1 : ¬ nI j = 1 := fun e => by have := (nI_eq (b := 1) hj (by decide)).mp e; omega
    have n2 : ¬ nI j = 2 := fun e => by have := (nI_eq (b := 2) hj (by decide)).mp e; omega
    have l : (13 : Int32) < nI j := nI_lt (a := 13) (by omega) hj
    exact Or.inr ⟨fun post hp => br_f n1 (br_f n2 (br_f (nI_pos hj) (br_t l hp))), fun post hp => br_f (nI_pos hj) (br_t l hp)⟩
  · have nn : ¬ nI o < 0 := nI_pos (by omega)
    have nl : ¬ (13 : Int32) < nI o := nI_nlt (a := 13) (by omega) (by decide)
    by_cases o12 : o = 1 ∨ o = 2
    · rcases pk_ix y (n := 4) (by decide) with h | h | ⟨j, hj, rfl⟩
      · refine Or.inr ⟨fun post hp => ?_, fun post hp => ?_⟩
        · have f : wX_isInstruction_10 post y (nI c) pf tt oo oc op ns ha fa pl lo ce la := sc_xloc0 (Or.inl h) ⟨rfl, hp⟩
          rcases o12 with rfl | rfl
          · exact br_t rfl f
          · exact br_f (by decide) (br_t rfl f)
        · have f : wY_bad_20 post y (nI c) oc aa tn tt oo op ns co ce ly ls := br_t h hp
          rcases o12 with rfl | rfl
          · exact br_f nn (br_f nl (br_t rfl f))
          · exact br_f nn (br_f nl (br_f (by decide) (br_t rfl f)))
      · refine Or.inr ⟨fun post hp => ?_, fun post hp => ?_⟩
        · have f : wX_isInstruction_10 post y (nI c) pf tt oo oc op ns ha fa pl lo ce la := sc_xloc0 (Or.inr h) ⟨rfl, hp⟩
          rcases o12 with rfl | rfl
          · exact br_t rfl f
          · exact br_f (by decide) (br_t rfl f)
        · obtain ⟨j, hj, h4, rfl⟩ := sc_le_nI (by decide) h
          have f : wY_bad_20 post (nI j) (nI c) oc aa tn tt oo op ns co ce ly ls := br_f (nI_pos hj) (br_f (nI_ge (a := 3) (by omega) hj) hp)
          rcases o12 with rfl | rfl
          · exact br_f nn (br_f nl (br_t rfl f))
          · exact br_f nn (br_f nl (br_f (by decide) (br_t rfl f)))
      · refine Or.inl ⟨o, ho, rfl, fun _ => ⟨j, hj, rfl⟩, fun post hp => ?_, fun post hp => ?_⟩
        · have f : wX_isInstruction_10 post (nI j) (nI c) pf tt oo oc op ns ha fa pl lo ce la := sc_xloc1 hj ⟨rfl, hp⟩
          rcases o12 with rfl | rfl
          · exact br_t rfl f
          · exact br_f (by decide) (br_t rfl f)
        · have f : wY_bad_20 post (nI j) (nI c) oc aa tn tt oo op ns co ce ly ls := br_f (nI_pos (by omega)) (br_t (nI_le (b := 3) (by omega) (by decide)) hp)
          rcases o12 with rfl | rfl
          · exact br_f nn (br_f nl (br_t rfl f))
          · exact br_f nn (br_f nl (br_f (by decide) (br_t rfl f)))
    · have n1 : ¬ nI o = 1 := fun e => o12 (Or.inl ((nI_eq (b := 1) (by omega) (by decide)).mp e))
      have n2 : ¬ nI o = 2 := fun e => o12 (Or.inr ((nI_eq (b := 2) (by omega) (by decide)).mp e))
      exact Or.inl ⟨o, ho, rfl, fun z => absurd z o12, fun post hp => br_f n1 (br_f n2 (br_f nn (br_f nl hp))), fun post hp => br_f nn (br_f nl (br_f n1 (br_f n2 hp)))⟩
end
