/-! What both ask of the token ahead. -/
/-- the reference's world, but for what is ahead and what is amiss -/
def Fk (m m' : GW) : Prop := m'.2 = m.2 ∧ (∀ i, i ≠ 0 → m'.1 i = m.1 i) ∧ ∀ k, (k < 12 ∨ 18 < k ∨ k = 16) → m'.1 0 k = m.1 0 k
/-- both go on, or both say what is amiss -/
def OK2 (o1 o2 : Option (Int32 × GW)) (m : GW) (Q : GW → GW → Prop) : Prop :=
  (∃ u' m', o1 = some (1, u') ∧ o2 = some (1, m') ∧ Q u' m') ∨ (∃ u' m', o1 = some (0, u') ∧ o2 = some (0, m') ∧ FE u' m' ∧ Fk m m')
section
variable {B : Nat → Nat} {n T i : Nat} {u m : GW}
theorem Fr.k {m' : GW} (h : Fr m m') (h2 : m'.1 0 18 = m.1 0 18) (h3 : m'.1 0 17 = m.1 0 17) : Fk m m' := ⟨h.1, h.2.1, fun k hk => by
  by_cases e : k < 12 ∨ 15 < k
  · exact h.2.2 k e
  · omega⟩
theorem kinds (B : Nat → Nat) (p : Nat) : (tK B p = 0 ∧ mK B p = 0) ∨ (tK B p = 1 ∧ mK B p = 2 ∧ tW B p ≠ (-1 : Int32)) ∨ (tK B p = 2 ∧ mK B p = 2 ∧ tW B p = (-1 : Int32) ∧ tL B p ≤ 8 ∧ tV B p = lN (nmC (nl B (tS B p) (tL B p)))) ∨ (tK B p = 5 ∧ mK B p = 2 ∧ tW B p = (-1 : Int32) ∧ 8 < tL B p) ∨
    (tK B p = 3 ∧ mK B p = 3 ∧ tV B p = lN (nu B (tS B p) (tL B p)) ∧ nu B (tS B p) (tL B p) < 10000) ∨ (tK B p = 4 ∧ mK B p = 4 ∧ tV B p = lN (B (tS B p)) ∧ B (tS B p) < 128) ∨ (tK B p = 6 ∧ mK B p = 1) := by
  unfold tK mK tV
  by_cases q : isL (B (tS B p)) = true
  · rw [if_pos q, if_pos q, if_pos q]
    by_cases q2 : tW B p = (-1 : Int32)
    · rw [if_pos q2, if_pos q2]
      by_cases q3 : 8 < tL B p
      · rw [if_pos q3]
        exact Or.inr (Or.inr (Or.inr (Or.inl ⟨rfl, rfl, q2, q3⟩)))
      · rw [if_neg q3]
        exact Or.inr (Or.inr (Or.inl ⟨rfl, rfl, q2, by omega, rfl⟩))
    · rw [if_neg q2, if_neg q2]
      exact Or.inr (Or.inl ⟨rfl, rfl, q2⟩)
  · rw [if_neg q, if_neg q, if_neg q]
    by_cases q2 : isD (B (tS B p)) = true
    · rw [if_pos q2, if_pos q2, if_pos q2]
      by_cases q3 : 4 < tL B p
      · rw [if_pos q3, if_pos q3]
        exact Or.inr (Or.inr (Or.inr (Or.inr (Or.inr (Or.inr ⟨rfl, rfl⟩)))))
      · rw [if_neg q3, if_neg q3]
        refine Or.inr (Or.inr (Or.inr (Or.inr (Or.inl ⟨rfl, rfl, rfl, ?_⟩))))
        have hE : tE B p = ru isD B (tS B p) := by unfold tE; rw [if_neg q, if_pos q2]
        have h1 := nu_lt B (tS B p) (tL B p) (fun i hi => ru_all (show tS B p ≤ tS B p + i by omega) (by rw [← hE]; unfold tL at hi; omega))
        have h2 : (10 : Nat) ^ tL B p ≤ 10 ^ 4 := Nat.pow_le_pow_right (by omega) (by omega)
        have h3 : (10 : Nat) ^ 4 = 10000 := by decide
        omega
    · rw [if_neg q2, if_neg q2, if_neg q2]
      by_cases q3 : isS (B (tS B p)) = true
      · rw [if_pos q3, if_pos q3, if_pos q3]
        refine Or.inr (Or.inr (Or.inr (Or.inr (Or.inr (Or.inl ⟨rfl, rfl, rfl, ?_⟩)))))
        have := of_decide_eq_true (show decide (B (tS B p) = 59 ∨ B (tS B p) = 60 ∨ B (tS B p) = 62 ∨ B (tS B p) = 61) = true from q3)
        omega
      · rw [if_neg q3, if_neg q3, if_neg q3]
        by_cases q4 : B (tS B p) = 256
        · rw [if_pos q4, if_pos q4]
          exact Or.inl ⟨rfl, rfl⟩
        · rw [if_neg q4, if_neg q4]
          exact Or.inr (Or.inr (Or.inr (Or.inr (Or.inr (Or.inr ⟨rfl, rfl⟩)))))
theorem SY.mv (h : SY u m B n T i) {m1 : GW} (h0 : ∀ k, k ≤ 15 → m1.1 0 k = m.1 0 k) (h7 : m1.1 7 = m.1 7) : SY u m1 B n T i := by
  obtain ⟨⟨a1, a2, a3, a4⟩, b, c, ⟨d1, d2, d3, d4, d5⟩, e1, e2⟩ := h
  refine ⟨⟨a1, a2, ⟨(h0 11 (by omega)).trans a3.1, fun k hk => by rw [h7]; exact a3.2 k hk⟩, a4⟩, b, c, ⟨(h0 12 (by omega)).trans d1, (h0 13 (by omega)).trans d2, fun z => (h0 14 (by omega)).trans (d3 z), fun z => (h0 15 (by omega)).trans (d4 z), fun z => (h0 15 (by omega)).trans (d5 z)⟩, e1, (h0 10 (by omega)).trans e2⟩
/-- what the class keeps of the token that it has passed -/
def PV (u' : GW) (B : Nat → Nat) (i : Nat) : Prop := u'.2 0 3 = tV B (tp B i) ∧ u'.1 0 9 = nI (tS B (tp B i))
theorem y_adv (h : SY u m B n T i) (hn : NE u m) (hO : tO B (tp B i)) : ∃ u' m', F_X8_advance u = some u' ∧ F_X11_ahead m = some m' ∧ SY u' m' B n T (i + 1) ∧ NE u' m' ∧ PV u' B i ∧ Fr m m' := by
  obtain ⟨⟨a1, a2, a3, a4⟩, ⟨b1, b2, b3, b4⟩, ⟨c1, c2, c3, c4, c5⟩, ⟨d1, d2, d3, d4, d5⟩, e1, e2⟩ := h
  obtain ⟨f1, f2, f3, f4⟩ := hn
  have hi : i + 1 < T := by
    rcases Nat.lt_or_ge (i + 1) T with z | z
    · exact z
    · exact absurd (by rw [show T - 1 = i by omega]; exact hO) b3
  have hmk : mK B (tp B i) ≠ 1 := by
    rcases kinds B (tp B i) with z | z | z | z | z | z | z
    · rw [z.2]; decide
    · rw [z.2.1]; decide
    · rw [z.2.1]; decide
    · rw [z.2.1]; decide
    · rw [z.2.1]; decide
    · rw [z.2.1]; decide
    · exact absurd z.1 hO.2
  obtain ⟨u', g1, g2, g3, g4, g5, g6, g7, g8, g9, g10, g11⟩ := x_load a4 hi b1 c1
  obtain ⟨m', k1, k2, k3⟩ := m_ahead a1 (tp_le a1 (i + 1)) a3 (d3 hmk)
  refine ⟨u', m', g1, k1, ⟨⟨a1, ⟨(g4 6 (by omega)).trans a2.1, fun k hk => by rw [g2 1 (by omega)]; exact a2.2 k hk⟩, k2.tm a3, (g4 10 (by omega)).trans a4.1, fun j hj => by rw [g2 2 (by omega), g2 3 (by omega), g3 4 (by omega)]; exact a4.2 j hj⟩, ⟨b1, b2, b3, hi⟩, ⟨g5, g6, g7, g8, g9⟩, k3, (g4 0 (by omega)).trans e1, (k2.2.2 10 (by omega)).trans e2⟩, ⟨(g4 4 (by omega)).trans f1, (g4 5 (by omega)).trans f2, (k2.2.2 18 (by omega)).trans f3, (k2.2.2 17 (by omega)).trans f4⟩, ⟨g10.trans (c4 hO), g11.trans c3⟩, k2⟩
theorem m_fails_eq (h18 : m.1 0 18 = 0) (k : Int32) : F_X11_fails k m = some (0, gI (gI m 0 18 (if m.1 0 12 = 1 then 1 else k)) 0 17 (m.1 0 13)) := by
  unfold F_X11_fails f_X11_fails_21
  rw [if_pos h18]
  by_cases e : m.1 0 12 = (1 : Int32)
  · rw [if_pos e, if_pos e]
  · rw [if_neg e, if_neg e]
theorem fk_fail (v z : Int32) : Fk m (gI (gI m 0 18 v) 0 17 z) := by
  refine ⟨rfl, fun i hi => ?_, fun k hk => ?_⟩
  · rw [gI_c0 _ hi, gI_c0 _ hi]
  · rw [gI_of _ _ (by omega), gI_of _ _ (by omega)]
theorem y_here (h : SY u m B n T i) (hn : NE u m) (Q : GW → GW → Prop) : OK2 (F_X8_failHere u) (F_X11_fails (2 : Int32) m) m Q := by
  obtain ⟨_, _, ⟨c1, c2, c3, c4, c5⟩, ⟨d1, d2, d3, d4, d5⟩, e1, e2⟩ := h
  obtain ⟨f1, f2, f3, f4⟩ := hn
  rw [m_fails_eq f3]
  unfold F_X8_failHere f_X8_failHere_15
  rw [c2, c3, d1, d2]
  rcases kinds B (tp B i) with z | z | z | z | z | z | z
  all_goals first
    | rw [z.1, z.2.1, if_neg (by decide), if_neg (by decide)]
      exact Or.inr ⟨_, _, rfl, rfl, ⟨e1, e2, ⟨2, by omega, by omega, rfl, rfl⟩, rfl⟩, fk_fail _ _⟩
    | rw [z.1, z.2, if_neg (by decide), if_neg (by decide)]
      exact Or.inr ⟨_, _, rfl, rfl, ⟨e1, e2, ⟨2, by omega, by omega, rfl, rfl⟩, rfl⟩, fk_fail _ _⟩
    | rw [z.1, z.2, if_pos rfl, if_pos rfl]
      exact Or.inr ⟨_, _, rfl, rfl, ⟨e1, e2, ⟨1, by omega, by omega, rfl, rfl⟩, rfl⟩, fk_fail _ _⟩
theorem y_fail (h : SY u m B n T i) (hn : NE u m) (hk : tK B (tp B i) ≠ 6) {k : Nat} (hk1 : 1 ≤ k ∧ k ≤ 9) (Q : GW → GW → Prop) : OK2 (F_X8_fail (nI k) u) (F_X11_fails (nI k) m) m Q := by
  obtain ⟨_, _, ⟨c1, c2, c3, c4, c5⟩, ⟨d1, d2, d3, d4, d5⟩, e1, e2⟩ := h
  obtain ⟨f1, f2, f3, f4⟩ := hn
  have hmk : mK B (tp B i) ≠ 1 := by
    rcases kinds B (tp B i) with z | z | z | z | z | z | z
    · rw [z.2]; decide
    · rw [z.2.1]; decide
    · rw [z.2.1]; decide
    · rw [z.2.1]; decide
    · rw [z.2.1]; decide
    · rw [z.2.1]; decide
    · exact absurd z.1 hk
  rw [m_fails_eq f3, d1, d2, if_neg hmk]
  unfold F_X8_fail
  rw [c3]
  exact Or.inr ⟨_, _, rfl, rfl, ⟨e1, e2, ⟨k, hk1.1, hk1.2, rfl, rfl⟩, rfl⟩, fk_fail _ _⟩
end
