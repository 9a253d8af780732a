/-! one instruction carried out, on both sides -/
theorem sc_a3 : ∀ j, j < 4 → nI j &&& 3 = nI j := by decide +kernel
section
variable {c : Nat} {pf tt oo oc : Int32} {op ns ha fa pl lo ce la : Nat → Int32}
theorem sc_xpush {post : SX → Prop} {t : Nat} {v : Int32} (ht : t < 6) (h : post (nI c, pf, nI (t + 1), oo, oc, op, ns, ha, fa, pl, lo, upd ce t v, la)) : wpX_push post (nI c, pf, nI t, oo, oc, op, ns, ha, fa, pl, lo, ce, la) v :=
  br_f (nI_ge (b := 6) ht (by decide)) ⟨vp_in_nI ht (by omega), nm_r (by rw [nI_clamp (by omega)]) (nm_r (nI_1 t) h)⟩
theorem sc_xpop {post : Int32 → SX → Prop} {t : Nat} (ht : t < 6) (h : post (ce t) (nI c, pf, nI t, oo, oc, op, ns, ha, fa, pl, lo, ce, la)) : wpX_pop post (nI c, pf, nI (t + 1), oo, oc, op, ns, ha, fa, pl, lo, ce, la) := by
  refine br_t (nI_lt (a := 0) (by omega) (by omega)) (nm_r (nI_pred t) ⟨vp_in_nI ht (by omega), ?_⟩)
  rw [nI_clamp (by omega)]
  exact h
end
section
variable {c : Nat} {oc aa tn tt oo : Int32} {op ns co ce ly ls : Nat → Int32}
theorem sc_ypush {post : SY → Prop} {t : Nat} {v : Int32} (ht : t < 6) (h : post (nI c, oc, aa, tn, nI (t + 1), oo, op, ns, co, upd ce t v, ly, ls)) : wpY_push post (nI c, oc, aa, tn, nI t, oo, op, ns, co, ce, ly, ls) v :=
  br_f (nI_ge (b := 6) ht (by decide)) ⟨vp_in_nI ht (by omega), nm_r (by rw [nI_clamp (by omega)]) (nm_r (nI_1 t) h)⟩
theorem sc_ypop {post : Int32 → SY → Prop} {t : Nat} (ht : t < 6) (h : post (ce t) (nI c, oc, aa, tn, nI t, oo, op, ns, co, ce, ly, ls)) : wpY_pop post (nI c, oc, aa, tn, nI (t + 1), oo, op, ns, co, ce, ly, ls) := by
  refine br_f (nI_nle (by omega) (by omega)) (nm_r (nI_pred t) ⟨vp_in_nI ht (by omega), ?_⟩)
  rw [nI_clamp (by omega)]
  exact h
theorem sc_yco0 {post : SY → Prop} {o pc : Nat} {n : Int32} (ho : o < 14) (hz : sc_nd o = 0)
    (H : wY_carryOut_42 post (nI o) n (nI (pc + 1)) 0 0 (nI c) oc (nI pc) tn tt oo op ns co ce ly ls) : wpY_carryOut post (nI c, oc, nI pc, tn, tt, oo, op, ns, co, ce, ly, ls) (nI o) n := by
  refine nm_r (nI_1 pc) (sc_yneed ho ?_)
  rw [hz]
  refine br_t (by decide) ?_
  refine sc_yneed ho ?_
  rw [hz]
  exact br_t (by decide) H
theorem sc_yco1 {post : SY → Prop} {o pc t : Nat} {n : Int32} (ho : o < 14) (hz : sc_nd o = 1) (ht : t < 6)
    (H : wY_carryOut_42 post (nI o) n (nI (pc + 1)) (ce t) 0 (nI c) oc (nI pc) tn (nI t) oo op ns co ce ly ls) : wpY_carryOut post (nI c, oc, nI pc, tn, nI (t + 1), oo, op, ns, co, ce, ly, ls) (nI o) n := by
  refine nm_r (nI_1 pc) (sc_yneed ho ?_)
  rw [hz]
  refine br_f (by decide) (sc_ypop ht ?_)
  show wY_carryOut_23 post (nI o) n (nI (pc + 1)) (ce t) (nI c) oc (nI pc) tn (nI t) oo op ns co ce ly ls
  refine sc_yneed ho ?_
  rw [hz]
  exact br_t (by decide) H
theorem sc_yco2 {post : SY → Prop} {o pc t : Nat} {n : Int32} (ho : o < 14) (hz : sc_nd o = 2) (ht : t + 1 < 6)
    (H : wY_carryOut_42 post (nI o) n (nI (pc + 1)) (ce (t + 1)) (ce t) (nI c) oc (nI pc) tn (nI t) oo op ns co ce ly ls) : wpY_carryOut post (nI c, oc, nI pc, tn, nI (t + 1 + 1), oo, op, ns, co, ce, ly, ls) (nI o) n := by
  refine nm_r (nI_1 pc) (sc_yneed ho ?_)
  rw [hz]
  refine br_f (by decide) (sc_ypop ht ?_)
  show wY_carryOut_23 post (nI o) n (nI (pc + 1)) (ce (t + 1)) (nI c) oc (nI pc) tn (nI (t + 1)) oo op ns co ce ly ls
  refine sc_yneed ho ?_
  rw [hz]
  exact br_f (by decide) (sc_ypop (by omega) H)
theorem sc_ysay3 {x : Int32} {ou : Nat} : ∀ (k : Nat) (lk : Nat → Int32), k ≤ 7 → (∀ j, j < 8 → lk j = if j ≤ k then ls j else ls (j - 1)) →
    ∃ ls' : Nat → Int32, (∀ j, j < 8 → ls' j = if j = 0 then x else ls (j - 1)) ∧
      ∀ post : SY → Prop, post (nI c, oc, aa, tn, tt, nI (ou + 1), op, ns, co, ce, ly, ls') → wY_say_3 post x (nI c) oc aa tn tt (nI ou) (k + 1) (nI k) op ns co ce ly lk := by
  intro k
  induction k with
  | zero =>
    intro lk _ e
    refine ⟨upd lk 0 x, fun j hj => ?_, fun post hp => br_t (by decide) (nm_e (nm_r (nI_1 ou) hp))⟩
    by_cases z : j = 0
    · rw [z, pk_us, if_pos rfl]
    · rw [pk_un z, if_neg z, e j hj, if_neg (by omega)]
  | succ k ih =>
    intro lk hk e
    have v1 : vp_in (nI k) 8 := vp_in_nI (by omega) (by omega)
    have v2 : vp_in (nI (k + 1)) 8 := vp_in_nI (by omega) (by omega)
    have u : upd lk (nI (k + 1)).toNatClampNeg (lk (nI (k + 1) - 1).toNatClampNeg) = upd lk (k + 1) (lk k) := by
      rw [nI_pred, nI_clamp (by omega), nI_clamp (by omega)]
    obtain ⟨ls', q, wp⟩ := ih (upd lk (k + 1) (lk k)) (by omega) (by
      intro j hj
      by_cases z : j = k + 1
      · rw [z, pk_us, e k (by omega), if_pos (by omega), if_neg (by omega)]
        rfl
      · rw [pk_un z, e j hj]
        by_cases y : j ≤ k
        · rw [if_pos y, if_pos (by omega)]
        · rw [if_neg y, if_neg (by omega)])
    refine ⟨ls', q, fun post hp => br_f (nI_nle (by omega) (by omega)) ⟨?_, v2, nm_r u (nm_r (pk_m1 k) (wp post hp))⟩⟩
    rw [nI_pred]
    exact v1
theorem sc_ysay {x : Int32} {ou : Nat} :
    ∃ ls' : Nat → Int32, (∀ j, j < 8 → ls' j = if j = 0 then x else ls (j - 1)) ∧
      ∀ post : SY → Prop, post (nI c, oc, aa, tn, tt, nI (ou + 1), op, ns, co, ce, ly, ls') → wpY_say post (nI c, oc, aa, tn, tt, nI ou, op, ns, co, ce, ly, ls) x := by
  obtain ⟨ls', q, wp⟩ := sc_ysay3 (c := c) (oc := oc) (aa := aa) (tn := tn) (tt := tt) (op := op) (ns := ns) (co := co) (ce := ce) (ly := ly) (ls := ls) (x := x) (ou := ou) 7 ls (by omega) (fun j hj => by rw [if_pos (by omega)])
  exact ⟨ls', q, fun post hp => ⟨_, wp post hp⟩⟩
end
section
variable {c : Nat} {pf oc aa tn : Int32} {op ns ha fa pl co : Nat → Int32}
theorem sc_step {o t ou pc : Nat} {n : Int32} {lo ce la ls : Nat → Int32} (h11 : o < 11) (a : sc_nd o ≤ t) (b : t + sc_rs o ≤ 7) (hn : o = 1 ∨ o = 2 → ∃ j, j < 4 ∧ n = nI j)
    (G : sc_G ou la ls) (hou : ou < 10000) (tl : t < 7) :
    ∃ (t' ou' : Nat) (lo' ce' la' ls' : Nat → Int32), t' + 1 = t + sc_rs o ∧ sc_G ou' la' ls' ∧ ou' ≤ ou + 1 ∧
      (∀ post : SX → Prop, post (nI c, pf, nI t', nI ou', oc, op, ns, ha, fa, pl, lo', ce', la') → wpX_carryOut post (nI c, pf, nI t, nI ou, oc, op, ns, ha, fa, pl, lo, ce, la) (nI o) n) ∧
      (∀ post : SY → Prop, post (nI c, oc, nI (pc + 1), tn, nI t', nI ou', op, ns, co, ce', lo', ls') → wpY_carryOut post (nI c, oc, nI pc, tn, nI t, nI ou, op, ns, co, ce, lo, ls) (nI o) n) := by
  rcases (by omega : o = 0 ∨ o = 1 ∨ o = 2 ∨ o = 3 ∨ o = 4 ∨ o = 5 ∨ o = 6 ∨ o = 7 ∨ o = 8 ∨ o = 9 ∨ o = 10) with rfl | rfl | rfl | rfl | rfl | rfl | rfl | rfl | rfl | rfl | rfl
  · have r : sc_rs 0 = 2 := by decide
    refine ⟨t + 1, ou, lo, upd ce t n, la, ls, by omega, G, by omega, fun post hp => ?_, fun post hp => sc_yco0 (by omega) (by decide) ?_⟩
    · exact br_f (by decide) (br_f (by decide) (br_t (by decide) (sc_xpush (by omega) hp)))
    · exact br_t (by decide) (sc_ypush (by omega) hp)
  · have r : sc_rs 1 = 2 := by decide
    obtain ⟨j, hj, rfl⟩ := hn (Or.inl rfl)
    have vj : vp_in (nI j) 4 := vp_in_nI hj (by omega)
    refine ⟨t + 1, ou, lo, upd ce t (lo j), la, ls, by omega, G, by omega, fun post hp => ?_, fun post hp => sc_yco0 (by omega) (by decide) ?_⟩
    · refine br_f (by decide) (br_f (by decide) (br_f (by decide) (br_t (by decide) ⟨vj, ?_⟩)))
      rw [nI_clamp (by omega)]
      exact sc_xpush (by omega) hp
    · refine br_f (by decide) (br_t (by decide) ?_)
      rw [sc_a3 j hj]
      refine ⟨vj, ?_⟩
      rw [nI_clamp (by omega)]
      exact sc_ypush (by omega) hp
  · have r : sc_rs 2 = 0 := by decide
    have m : sc_nd 2 = 1 := by decide
    obtain ⟨j, hj, rfl⟩ := hn (Or.inr rfl)
    have vj : vp_in (nI j) 4 := vp_in_nI hj (by omega)
    obtain ⟨s, rfl⟩ : ∃ s, t = s + 1 := ⟨t - 1, by omega⟩
    refine ⟨s, ou, upd lo j (ce s), ce, la, ls, by omega, G, by omega, fun post hp => ?_, fun post hp => sc_yco1 (by omega) (by decide) (by omega) ?_⟩
    · refine br_f (by decide) (br_f (by decide) (br_f (by decide) (br_f (by decide) (br_t (by decide) (sc_xpop (by omega) ⟨vj, nm_r ?_ hp⟩)))))
      rw [nI_clamp (by omega)]
    · refine br_f (by decide) (br_f (by decide) (br_t (by decide) ?_))
      rw [sc_a3 j hj]
      refine ⟨vj, nm_r ?_ hp⟩
      rw [nI_clamp (by omega)]
  · have r : sc_rs 3 = 0 := by decide
    have m : sc_nd 3 = 2 := by decide
    obtain ⟨s, rfl⟩ : ∃ s, t = s + 1 + 1 := ⟨t - 2, by omega⟩
    refine ⟨s + 1, ou, lo, upd ce s (ce s + ce (s + 1)), la, ls, by omega, G, by omega, fun post hp => ?_, fun post hp => sc_yco2 (by omega) (by decide) (by omega) ?_⟩
    · refine br_f (by decide) (br_f (by decide) (br_f (by decide) (br_f (by decide) (br_f (by decide) (br_t (by decide) ?_)))))
      unfold wX_carryOut_123 wpX_calculate
      dsimp only
      refine sc_xpop (by omega) (sc_xpop (by omega) (br_f (by decide) (br_f (by decide) ?_)))
      exact br_t (by decide) (sc_xpush (by omega) hp)
    · refine br_f (by decide) (br_f (by decide) (br_f (by decide) (br_f (by decide) ?_)))
      exact br_t (by decide) (sc_ypush (by omega) hp)
  · have r : sc_rs 4 = 0 := by decide
    have m : sc_nd 4 = 2 := by decide
    obtain ⟨s, rfl⟩ : ∃ s, t = s + 1 + 1 := ⟨t - 2, by omega⟩
    refine ⟨s + 1, ou, lo, upd ce s (ce s - ce (s + 1)), la, ls, by omega, G, by omega, fun post hp => ?_, fun post hp => sc_yco2 (by omega) (by decide) (by omega) ?_⟩
    · refine br_f (by decide) (br_f (by decide) (br_f (by decide) (br_f (by decide) (br_f (by decide) (br_f (by decide) (br_t (by decide) ?_))))))
      unfold wX_carryOut_123 wpX_calculate
      dsimp only
      refine sc_xpop (by omega) (sc_xpop (by omega) (br_f (by decide) (br_f (by decide) ?_)))
      exact br_f (by decide) (br_t (by decide) (sc_xpush (by omega) hp))
    · refine br_f (by decide) (br_f (by decide) (br_f (by decide) (br_f (by decide) ?_)))
      exact br_f (by decide) (br_t (by decide) (sc_ypush (by omega) hp))
  · have r : sc_rs 5 = 0 := by decide
    have m : sc_nd 5 = 2 := by decide
    obtain ⟨s, rfl⟩ : ∃ s, t = s + 1 + 1 := ⟨t - 2, by omega⟩
    refine ⟨s + 1, ou, lo, upd ce s (ce s * ce (s + 1)), la, ls, by omega, G, by omega, fun post hp => ?_, fun post hp => sc_yco2 (by omega) (by decide) (by omega) ?_⟩
    · refine br_f (by decide) (br_f (by decide) (br_f (by decide) (br_f (by decide) (br_f (by decide) (br_f (by decide) (br_f (by decide) (br_t (by decide) ?_)))))))
      unfold wX_carryOut_123 wpX_calculate
      dsimp only
      refine sc_xpop (by omega) (sc_xpop (by omega) (br_f (by decide) (br_f (by decide) ?_)))
      exact br_f (by decide) (br_f (by decide) (br_t (by decide) (sc_xpush (by omega) hp)))
    · refine br_f (by decide) (br_f (by decide) (br_f (by decide) (br_f (by decide) ?_)))
      exact br_f (by decide) (br_f (by decide) (br_t (by decide) (sc_ypush (by omega) hp)))
  · have r : sc_rs 6 = 0 := by decide
    have m : sc_nd 6 = 2 := by decide
    obtain ⟨s, rfl⟩ : ∃ s, t = s + 1 + 1 := ⟨t - 2, by omega⟩
    refine ⟨s + 1, ou, lo, upd ce s (if ce (s + 1) ≤ ce s then 0 else 1), la, ls, by omega, G, by omega, fun post hp => ?_, fun post hp => sc_yco2 (by omega) (by decide) (by omega) ?_⟩
    · refine br_f (by decide) (br_f (by decide) (br_f (by decide) (br_f (by decide) (br_f (by decide) (br_f (by decide) (br_f (by decide) (br_f (by decide) (br_t (by decide) ?_))))))))
      unfold wX_carryOut_123 wpX_calculate
      dsimp only
      refine sc_xpop (by omega) (sc_xpop (by omega) (br_f (by decide) (br_t (by decide) ?_)))
      by_cases z : ce (s + 1) ≤ ce s
      · rw [if_pos z] at hp
        refine br_t z ?_
        exact sc_xpush (by omega) hp
      · rw [if_neg z] at hp
        refine br_f z ?_
        exact sc_xpush (by omega) hp
    · refine br_f (by decide) (br_f (by decide) (br_f (by decide) (br_f (by decide) (br_f (by decide) (br_f (by decide) (br_f (by decide) ?_))))))
      by_cases z : ce (s + 1) ≤ ce s
      · rw [if_pos z] at hp
        exact br_t z (sc_ypush (by omega) hp)
      · rw [if_neg z] at hp
        exact br_f z (sc_ypush (by omega) hp)
  · have r : sc_rs 7 = 2 := by decide
    have m : sc_nd 7 = 1 := by decide
    obtain ⟨s, rfl⟩ : ∃ s, t = s + 1 := ⟨t - 1, by omega⟩
    refine ⟨s + 1 + 1, ou, lo, upd (upd ce s (ce s)) (s + 1) (ce s), la, ls, by omega, G, by omega, fun post hp => ?_, fun post hp => sc_yco1 (by omega) (by decide) (by omega) ?_⟩
    · refine br_f (by decide) (br_f (by decide) (br_f (by decide) (br_f (by decide) (br_f (by decide) (br_f (by decide) (br_f (by decide) (br_f (by decide) (br_f (by decide) (br_t (by decide) ?_)))))))))
      unfold wpX_duplicate
      dsimp only
      exact sc_xpop (by omega) (sc_xpush (by omega) (sc_xpush (by omega) hp))
    · refine br_f (by decide) (br_f (by decide) (br_f (by decide) (br_t (by decide) (br_t (by decide) ?_))))
      exact sc_ypush (by omega) (sc_ypush (by omega) hp)
  · have r : sc_rs 8 = 1 := by decide
    have m : sc_nd 8 = 2 := by decide
    obtain ⟨s, rfl⟩ : ∃ s, t = s + 1 + 1 := ⟨t - 2, by omega⟩
    refine ⟨s + 1 + 1, ou, lo, upd (upd ce s (ce (s + 1))) (s + 1) (ce s), la, ls, by omega, G, by omega, fun post hp => ?_, fun post hp => sc_yco2 (by omega) (by decide) (by omega) ?_⟩
    · refine br_f (by decide) (br_f (by decide) (br_f (by decide) (br_f (by decide) (br_f (by decide) (br_f (by decide) (br_f (by decide) (br_f (by decide) (br_f (by decide) (br_f (by decide) (br_t (by decide) ?_))))))))))
      unfold wpX_exchange
      dsimp only
      exact sc_xpop (by omega) (sc_xpop (by omega) (sc_xpush (by omega) (sc_xpush (by omega) hp)))
    · refine br_f (by decide) (br_f (by decide) (br_f (by decide) (br_t (by decide) (br_f (by decide) (br_t (by decide) ?_)))))
      exact sc_ypush (by omega) (sc_ypush (by omega) hp)
  · have r : sc_rs 9 = 0 := by decide
    have m : sc_nd 9 = 1 := by decide
    obtain ⟨s, rfl⟩ : ∃ s, t = s + 1 := ⟨t - 1, by omega⟩
    refine ⟨s, ou, lo, ce, la, ls, by omega, G, by omega, fun post hp => ?_, fun post hp => sc_yco1 (by omega) (by decide) (by omega) ?_⟩
    · refine br_f (by decide) (br_f (by decide) (br_f (by decide) (br_f (by decide) (br_f (by decide) (br_f (by decide) (br_f (by decide) (br_f (by decide) (br_f (by decide) (br_f (by decide) (br_f (by decide) (br_t (by decide) ?_)))))))))))
      exact sc_xpop (by omega) hp
    · exact br_f (by decide) (br_f (by decide) (br_f (by decide) (br_t (by decide) (br_f (by decide) (br_f (by decide) (br_f (by decide) (br_f (by decide) (br_f (by decide) hp))))))))
  · have r : sc_rs 10 = 0 := by decide
    have m : sc_nd 10 = 1 := by decide
    obtain ⟨s, rfl⟩ : ∃ s, t = s + 1 := ⟨t - 1, by omega⟩
    obtain ⟨ls', q, wp⟩ := sc_ysay (c := c) (oc := oc) (aa := nI pc) (tn := tn) (tt := nI s) (op := op) (ns := ns) (co := co) (ce := ce) (ly := lo) (ls := ls) (x := ce s) (ou := ou)
    have e8 : nI ou - nI ou / 8 * 8 = nI (ou % 8) := pk_rem (d := 8) (by omega) (by omega) (by omega)
    refine ⟨s, ou + 1, lo, ce, upd la (ou % 8) (ce s), ls', by omega, sc_G_s G q, by omega, fun post hp => ?_, fun post hp => sc_yco1 (by omega) (by decide) (by omega) ?_⟩
    · refine br_f (by decide) (br_f (by decide) (br_f (by decide) (br_f (by decide) (br_f (by decide) (br_f (by decide) (br_f (by decide) (br_f (by decide) (br_f (by decide) (br_f (by decide) (br_f (by decide) (br_f (by decide) (br_t (by decide) ?_))))))))))))
      unfold wpX_putOut
      dsimp only
      refine sc_xpop (by omega) ⟨by decide, ?_⟩
      rw [e8]
      refine ⟨vp_in_nI (by omega) (by omega), nm_r ?_ (nm_r (nI_1 ou) hp)⟩
      rw [nI_clamp (by omega)]
    · exact br_f (by decide) (br_f (by decide) (br_f (by decide) (br_t (by decide) (br_f (by decide) (br_f (by decide) (br_t (by decide) (wp _ hp)))))))
end
