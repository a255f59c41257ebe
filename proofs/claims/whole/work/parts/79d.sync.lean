/-! Both stand at one token. -/
def SY (u m : GW) (B : Nat → Nat) (n T i : Nat) : Prop :=
  (BT B n ∧ TX u B n ∧ TM m B n ∧ CA u B T) ∧ (T ≤ 901 ∧ (∀ j, j + 1 < T → tO B (tp B j)) ∧ ¬ tO B (tp B (T - 1)) ∧ i < T) ∧
  (u.1 0 11 = nI (i + 1) ∧ u.1 0 1 = tK B (tp B i) ∧ u.1 0 7 = nI (tS B (tp B i)) ∧ (tO B (tp B i) → u.2 0 8 = tV B (tp B i)) ∧ u.1 0 2 = (if tK B (tp B i) = 1 then tW B (tp B i) else -1)) ∧
  MT m B (tp B i) ∧ (u.1 0 0 = 0 ∧ m.1 0 10 = 0)
/-- nothing is amiss yet -/
def NE (u m : GW) : Prop := u.1 0 4 = 0 ∧ u.1 0 5 = (-1 : Int32) ∧ m.1 0 18 = 0 ∧ m.1 0 17 = (-1 : Int32)
/-- both say what is amiss, and where -/
def FE (u m : GW) : Prop := u.1 0 0 = 0 ∧ m.1 0 10 = 0 ∧ (∃ k, 1 ≤ k ∧ k ≤ 9 ∧ u.1 0 4 = nI k ∧ m.1 0 18 = nI k) ∧ u.1 0 5 = m.1 0 17
section
variable {B : Nat → Nat} {n T i : Nat} {u m : GW}
theorem gI_c0 (w : GW) {i k : Nat} {v : Int32} (h : i ≠ 0) : (gI w 0 k v).1 i = w.1 i := by
  funext q
  exact if_neg (fun z => h z.1)
theorem tK_O {p : Nat} (h : tK B p = 1 ∨ tK B p = 2 ∨ tK B p = 3 ∨ tK B p = 4) : tO B p := by
  unfold tO
  rcases h with h | h | h | h <;> rw [h] <;> decide
theorem tW_nn (B : Nat → Nat) (p : Nat) : tW B p = (-1 : Int32) ∨ ∃ k, k < 28 ∧ tW B p = nI k := by
  have key : ∀ (ws : List (List Nat)) (l : List Nat) (i : Nat), kfind ws l i = -1 ∨ ∃ k, k < i + ws.length ∧ kfind ws l i = nI k := by
    intro ws
    induction ws with
    | nil => intro l i; exact Or.inl rfl
    | cons v ws ih =>
      intro l i
      show (if v = l then nI i else kfind ws l (i + 1)) = -1 ∨ ∃ k, k < i + (ws.length + 1) ∧ (if v = l then nI i else kfind ws l (i + 1)) = nI k
      by_cases e : v = l
      · rw [if_pos e]; exact Or.inr ⟨i, by omega, rfl⟩
      · rw [if_neg e]
        rcases ih l (i + 1) with h | ⟨k, h1, h2⟩
        · exact Or.inl h
        · exact Or.inr ⟨k, by omega, h2⟩
  rcases key wdC (lw B (tS B p) (tL B p)) 0 with h | ⟨k, h1, h2⟩
  · exact Or.inl h
  · have e : 0 + wdC.length = 28 := by decide
    exact Or.inr ⟨k, by omega, h2⟩
theorem tV_word {p : Nat} (h : tK B p = 1) : (tV B p).toInt32 = tW B p := by
  unfold tK at h
  by_cases q : isL (B (tS B p)) = true
  · rw [if_pos q] at h
    by_cases q2 : tW B p = (-1 : Int32)
    · rw [if_pos q2] at h
      by_cases q3 : 8 < tL B p
      · rw [if_pos q3] at h; exact absurd h (by decide)
      · rw [if_neg q3] at h; exact absurd h (by decide)
    · unfold tV
      rw [if_pos q, if_neg q2]
      exact Int32.toInt32_toInt64 _
  · rw [if_neg q] at h
    by_cases q2 : isD (B (tS B p)) = true
    · rw [if_pos q2] at h
      by_cases q3 : 4 < tL B p
      · rw [if_pos q3] at h; exact absurd h (by decide)
      · rw [if_neg q3] at h; exact absurd h (by decide)
    · rw [if_neg q2] at h
      by_cases q3 : isS (B (tS B p)) = true
      · rw [if_pos q3] at h; exact absurd h (by decide)
      · rw [if_neg q3] at h
        by_cases q4 : B (tS B p) = 256
        · rw [if_pos q4] at h; exact absurd h (by decide)
        · rw [if_neg q4] at h; exact absurd h (by decide)
/-- the class goes on to token j -/
theorem x_load {j : Nat} (hc : CA u B T) (hj : j < T) (hT : T ≤ 901) (h11 : u.1 0 11 = nI j) : ∃ u', F_X8_advance u = some u' ∧ (∀ i, i ≠ 0 → u'.1 i = u.1 i) ∧ (∀ i, i ≠ 0 → u'.2 i = u.2 i) ∧ (∀ k, (k = 0 ∨ k = 4 ∨ k = 5 ∨ k = 6 ∨ k = 10) → u'.1 0 k = u.1 0 k) ∧
    u'.1 0 11 = nI (j + 1) ∧ u'.1 0 1 = tK B (tp B j) ∧ u'.1 0 7 = nI (tS B (tp B j)) ∧ (tO B (tp B j) → u'.2 0 8 = tV B (tp B j)) ∧ u'.1 0 2 = (if tK B (tp B j) = 1 then tW B (tp B j) else -1) ∧ u'.2 0 3 = u.2 0 8 ∧ u'.1 0 9 = u.1 0 7 := by
  obtain ⟨c10, c⟩ := hc
  obtain ⟨c1, c2, c3⟩ := c j hj
  unfold F_X8_advance f_X8_advance_101
  rw [h11, c10, if_neg (nI_pos (by omega)), if_neg (nI_ge hj (by omega)), if_neg (nI_geL (by show j < 901; omega) (by omega)), if_pos (gin_nI (by omega) (by omega)), nI_clamp (by omega), c1, c2]
  by_cases q : tK B (tp B j) = 1
  · have hO : tO B (tp B j) := tK_O (Or.inl q)
    rw [if_pos q, if_pos q, c3 hO, tV_word q]
    refine ⟨_, rfl, fun i hi => ?_, fun i hi => ?_, fun k hk => ?_, ?_, rfl, rfl, fun _ => rfl, rfl, rfl, rfl⟩
    · rw [gI_c0 _ hi, gI_c0 _ hi, gL_1, gI_c0 _ hi, gI_c0 _ hi, gI_c0 _ hi, gL_1]
    · funext z
      show (if i = 0 ∧ z = 8 then _ else if i = 0 ∧ z = 3 then _ else u.2 i z) = u.2 i z
      rw [if_neg (fun y => hi y.1), if_neg (fun y => hi y.1)]
    · rcases hk with rfl | rfl | rfl | rfl | rfl <;> rfl
    · show u.1 0 11 + 1 = nI (j + 1)
      rw [h11, nI_1]
  · rw [if_neg q, if_neg q]
    refine ⟨_, rfl, fun i hi => ?_, fun i hi => ?_, fun k hk => ?_, ?_, rfl, rfl, c3, rfl, rfl, rfl⟩
    · rw [gI_c0 _ hi, gI_c0 _ hi, gL_1, gI_c0 _ hi, gI_c0 _ hi, gI_c0 _ hi, gL_1]
    · funext z
      show (if i = 0 ∧ z = 8 then _ else if i = 0 ∧ z = 3 then _ else u.2 i z) = u.2 i z
      rw [if_neg (fun y => hi y.1), if_neg (fun y => hi y.1)]
    · rcases hk with rfl | rfl | rfl | rfl | rfl <;> rfl
    · show u.1 0 11 + 1 = nI (j + 1)
      rw [h11, nI_1]
end
