def tp (B : Nat → Nat) : Nat → Nat
  | 0 => 0
  | i + 1 => tE B (tp B i)
def CA (u : GW) (B : Nat → Nat) (T : Nat) : Prop := u.1 0 10 = nI T ∧ ∀ i, i < T → u.1 2 i = tK B (tp B i) ∧ u.1 3 i = nI (tS B (tp B i)) ∧ (tO B (tp B i) → u.2 4 i = tV B (tp B i))
section
variable {B : Nat → Nat} {n : Nat} {u m : GW}
theorem x_blank (h : TX u B n) (hB : BT B n) : ∀ (j k n1 : Nat), n - k ≤ j → k ≤ n → j < n1 → f_X8_scanToken_2 n1 (nI k) u = f_X8_scanToken_24 (nI (ru isB B k)) u := by
  have hb := hB.1
  intro j
  induction j with
  | zero =>
    intro k n1 hj hk hn
    obtain ⟨n1, rfl⟩ := fu_pos hn
    have e : ru isB B k = k := ru_stop (by rw [hB.2.2 k (by omega)]; decide)
    rw [e]
    show b_X8_scanToken_2 _ _ u = _
    unfold b_X8_scanToken_2
    rw [h.1, if_pos (nI_le (by omega) (by omega))]
  | succ j ih =>
    intro k n1 hj hk hn
    obtain ⟨n1, rfl⟩ := fu_pos (show 0 < n1 by omega)
    show b_X8_scanToken_2 _ _ u = _
    unfold b_X8_scanToken_2
    rw [h.1]
    by_cases e : n ≤ k
    · have e2 : ru isB B k = k := ru_stop (by rw [hB.2.2 k e]; decide)
      rw [e2, if_pos (nI_le (by omega) (by omega))]
    · rw [if_neg (nI_ge (by omega) (by omega)), x_isB h hB (by omega), Option.bind_some, ite01]
      by_cases q : isB (B k) = true
      · rw [if_pos q, ru_go q (by omega), nI_1]
        exact ih (k + 1) n1 (by omega) (by omega) (by omega)
      · rw [if_neg q, ru_stop q]
theorem x_tok (h : TX u B n) (hB : BT B n) {p T : Nat} (hp : p ≤ n) (hT : T < 901) (h10 : u.1 0 10 = nI T) : ∃ q v, F_X8_scanToken (nI p) u = some (q, AT u T (tK B p) (tS B p) v) ∧ (tO B p → q = nI (tE B p) ∧ v = tV B p) := by
  have hF := FU_big
  have hb := hB.1
  unfold F_X8_scanToken
  rw [x_blank h hB (n - p) p FU (by omega) hp (by omega)]
  exact x_tok24 h hB hp hT h10
theorem tE_le (hB : BT B n) {p : Nat} (hp : p ≤ n) : tE B p ≤ n := by
  have hs := tS_le hB hp
  unfold tE
  by_cases q : isL (B (tS B p)) = true
  · rw [if_pos q]; exact ru_le hB (by decide) hs
  · rw [if_neg q]
    by_cases q2 : isD (B (tS B p)) = true
    · rw [if_pos q2]; exact ru_le hB (by decide) hs
    · rw [if_neg q2]
      by_cases q3 : isS (B (tS B p)) = true
      · rw [if_pos q3]
        exact hB.lt (fun z => by rw [z] at q3; exact absurd q3 (by decide))
      · rw [if_neg q3]; exact hs
theorem tE_gt (hB : BT B n) {p : Nat} (hp : p ≤ n) (ho : tO B p) : p < tE B p := by
  have hb := hB.1
  have hs := tS_le hB hp
  have hge : p ≤ tS B p := ru_ge _
  unfold tE
  by_cases q : isL (B (tS B p)) = true
  · rw [if_pos q, ru_go q (by omega)]
    have : tS B p + 1 ≤ ru isL B (tS B p + 1) := ru_ge _
    omega
  · rw [if_neg q]
    by_cases q2 : isD (B (tS B p)) = true
    · rw [if_pos q2, ru_go q2 (by omega)]
      have : tS B p + 1 ≤ ru isD B (tS B p + 1) := ru_ge _
      omega
    · rw [if_neg q2]
      by_cases q3 : isS (B (tS B p)) = true
      · rw [if_pos q3]; omega
      · exfalso
        unfold tO tK at ho
        rw [if_neg q, if_neg q2, if_neg q3] at ho
        by_cases q4 : B (tS B p) = 256
        · rw [if_pos q4] at ho; exact ho.1 rfl
        · rw [if_neg q4] at ho; exact ho.2 rfl
theorem tp_le (hB : BT B n) : ∀ i, tp B i ≤ n
  | 0 => Nat.zero_le _
  | i + 1 => tE_le hB (tp_le hB i)
theorem tp_ge (hB : BT B n) : ∀ i, (∀ j, j < i → tO B (tp B j)) → i ≤ tp B i
  | 0, _ => Nat.zero_le _
  | i + 1, h => by
    have h1 := tp_ge hB i (fun j hj => h j (by omega))
    have h2 := tE_gt hB (tp_le hB i) (h i (by omega))
    show i + 1 ≤ tE B (tp B i)
    omega
theorem CA.add {T : Nat} (h : CA u B T) {v : Int64} (hv : tO B (tp B T) → v = tV B (tp B T)) : CA (AT u T (tK B (tp B T)) (tS B (tp B T)) v) B (T + 1) := by
  refine ⟨rfl, fun i hi => ?_⟩
  have e1 : (AT u T (tK B (tp B T)) (tS B (tp B T)) v).1 2 i = if i = T then tK B (tp B T) else u.1 2 i := by
    show (if 2 = 2 ∧ i = T then _ else _) = _
    by_cases e : i = T
    · rw [if_pos e, if_pos ⟨rfl, e⟩]
    · rw [if_neg e, if_neg (fun z => e z.2)]
  have e2 : (AT u T (tK B (tp B T)) (tS B (tp B T)) v).1 3 i = if i = T then nI (tS B (tp B T)) else u.1 3 i := by
    show (if 3 = 3 ∧ i = T then _ else _) = _
    by_cases e : i = T
    · rw [if_pos e, if_pos ⟨rfl, e⟩]
    · rw [if_neg e, if_neg (fun z => e z.2)]
      rfl
  have e3 : (AT u T (tK B (tp B T)) (tS B (tp B T)) v).2 4 i = if i = T then v else u.2 4 i := by
    show (if 4 = 4 ∧ i = T then _ else _) = _
    by_cases e : i = T
    · rw [if_pos e, if_pos ⟨rfl, e⟩]
    · rw [if_neg e, if_neg (fun z => e z.2)]
      rfl
  rw [e1, e2, e3]
  by_cases e : i = T
  · rw [if_pos e, if_pos e, if_pos e, e]
    exact ⟨rfl, rfl, hv⟩
  · rw [if_neg e, if_neg e, if_neg e]
    exact h.2 i (by omega)
/-- what is left alone by the search for tokens -/
def FT (u u' : GW) : Prop := u'.1 1 = u.1 1 ∧ ∀ k, k ≠ 10 → k ≠ 12 → u'.1 0 k = u.1 0 k
theorem FT.at {T : Nat} {kd : Int32} {pl : Nat} {v : Int64} : FT u (AT u T kd pl v) := by
  refine ⟨rfl, fun k h1 h2 => ?_⟩
  show (if 0 = 0 ∧ k = 12 then _ else if 0 = 0 ∧ k = 10 then _ else u.1 0 k) = _
  rw [if_neg (fun z => h2 z.2), if_neg (fun z => h1 z.2)]
theorem FT.tx {u' : GW} (h : FT u u') (q : TX u B n) : TX u' B n := by
  refine ⟨(h.2 6 (by omega) (by omega)).trans q.1, fun k hk => ?_⟩
  rw [h.1]
  exact q.2 k hk
theorem x_begin_l (hB : BT B n) : ∀ (j T n1 : Nat) (u : GW), T + j = 901 → j < n1 → TX u B n → CA u B T → (∀ i, i < T → tO B (tp B i)) → u.1 0 12 = 0 →
    ∃ u' T', 0 < T' ∧ T' ≤ 901 ∧ FT u u' ∧ CA u' B T' ∧ (∀ i, i + 1 < T' → tO B (tp B i)) ∧ ¬ tO B (tp B (T' - 1)) ∧ f_X8_begin_47 n1 (nI (tp B T)) (nI T) u = f_X8_begin_73 u' := by
  have hb := hB.1
  intro j
  induction j with
  | zero =>
    intro T n1 u hT hn h hc ho h12
    have h1 := tp_ge hB T ho
    have h2 := tp_le hB T
    omega
  | succ j ih =>
    intro T n1 u hT hn h hc ho h12
    obtain ⟨n1, rfl⟩ := fu_pos (show 0 < n1 by omega)
    obtain ⟨q, v, k1, k2⟩ := x_tok h hB (tp_le hB T) (T := T) (by omega) hc.1
    have e : f_X8_begin_47 (n1 + 1) (nI (tp B T)) (nI T) u = f_X8_begin_47 n1 q (nI (T + 1)) (AT u T (tK B (tp B T)) (tS B (tp B T)) v) := by
      show b_X8_begin_47 _ (nI (tp B T)) (nI T) u = _
      unfold b_X8_begin_47
      rw [if_neg (nI_geL (by show T < 901; omega) (by omega)), if_pos h12, k1, Option.bind_some, nI_1]
    rw [e]
    have hc2 := hc.add (v := v) (fun z => (k2 z).2)
    by_cases hO : tO B (tp B T)
    · rw [(k2 hO).1]
      obtain ⟨u', T', g1, g2, g3, g4, g5, g6, g7⟩ := ih (T + 1) n1 (AT u T (tK B (tp B T)) (tS B (tp B T)) v) (by omega) (by omega) (FT.at.tx h) hc2 (fun i hi => by
        by_cases e2 : i = T
        · rw [e2]; exact hO
        · exact ho i (by omega)) (by
        show (if tK B (tp B T) = 0 ∨ tK B (tp B T) = 6 then (1 : Int32) else 0) = 0
        rw [if_neg (fun z => by rcases z with z | z; exact hO.1 z; exact hO.2 z)])
      refine ⟨u', T', g1, g2, ⟨g3.1, fun k z1 z2 => (g3.2 k z1 z2).trans (FT.at.2 k z1 z2)⟩, g4, g5, g6, g7⟩
    · refine ⟨_, T + 1, by omega, by omega, FT.at, hc2, fun i hi => ho i (by omega), hO, ?_⟩
      obtain ⟨n1, rfl⟩ := fu_pos (show 0 < n1 by omega)
      show b_X8_begin_47 _ q (nI (T + 1)) _ = _
      unfold b_X8_begin_47
      have hor : tK B (tp B T) = 0 ∨ tK B (tp B T) = 6 := by
        by_cases z : tK B (tp B T) = 0
        · exact Or.inl z
        · by_cases z2 : tK B (tp B T) = 6
          · exact Or.inr z2
          · exact absurd ⟨z, z2⟩ hO
      rw [if_neg (show ¬ (AT u T (tK B (tp B T)) (tS B (tp B T)) v).1 0 12 = 0 by
        show ¬ (if tK B (tp B T) = 0 ∨ tK B (tp B T) = 6 then (1 : Int32) else 0) = 0
        rw [if_pos hor]; exact one_ne), ite_self]
end
