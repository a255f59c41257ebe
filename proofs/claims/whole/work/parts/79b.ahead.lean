/-! The reference finds one token at a time. -/
def Fr (m m' : GW) : Prop := m'.2 = m.2 ∧ (∀ i, i ≠ 0 → m'.1 i = m.1 i) ∧ ∀ k, (k < 12 ∨ 15 < k) → m'.1 0 k = m.1 0 k
def mK (B : Nat → Nat) (p : Nat) : Int32 := if isL (B (tS B p)) = true then 2 else if isD (B (tS B p)) = true then (if 4 < tL B p then 1 else 3) else if isS (B (tS B p)) = true then 4 else if B (tS B p) = 256 then 0 else 1
/-- the reference stands at the token that is found from p on -/
def MT (m : GW) (B : Nat → Nat) (p : Nat) : Prop := m.1 0 12 = mK B p ∧ m.1 0 13 = nI (tS B p) ∧ (mK B p ≠ 1 → m.1 0 14 = nI (tE B p)) ∧
  (mK B p = 3 → m.1 0 15 = nI (nu B (tS B p) (tL B p))) ∧ (mK B p = 4 → m.1 0 15 = nI (B (tS B p)))
section
variable {B : Nat → Nat} {n : Nat} {u m : GW}
theorem Fr.rf : Fr m m := ⟨rfl, fun _ _ => rfl, fun _ _ => rfl⟩
theorem Fr.tr {m1 m2 : GW} (h : Fr m m1) (h2 : Fr m1 m2) : Fr m m2 := ⟨h2.1.trans h.1, fun i hi => (h2.2.1 i hi).trans (h.2.1 i hi), fun k hk => (h2.2.2 k hk).trans (h.2.2 k hk)⟩
theorem Fr.g {k : Nat} (hk : 12 ≤ k ∧ k ≤ 15) (v : Int32) : Fr m (gI m 0 k v) := by
  refine ⟨rfl, fun i hi => funext fun q => ?_, fun q hq => ?_⟩
  · show (if i = 0 ∧ q = k then v else m.1 i q) = _
    rw [if_neg (fun z => hi z.1)]
  · show (if 0 = 0 ∧ q = k then v else m.1 0 q) = _
    rw [if_neg (by omega)]
theorem Fr.tm {m' : GW} (h : Fr m m') (q : TM m B n) : TM m' B n := ⟨(h.2.2 11 (by omega)).trans q.1, fun k hk => by rw [h.2.1 7 (by omega)]; exact q.2 k hk⟩
theorem gI_at (w : GW) (k : Nat) (v : Int32) : (gI w 0 k v).1 0 k = v := if_pos ⟨rfl, rfl⟩
theorem gI_of (w : GW) {k j : Nat} (v : Int32) (h : j ≠ k) : (gI w 0 k v).1 0 j = w.1 0 j := if_neg (fun z => h z.2)
theorem m_word (hB : BT B n) : ∀ (j k n1 : Nat) (m : GW), n - k ≤ j → k ≤ n → j < n1 → TM m B n → m.1 0 14 = nI k → ∃ m', f_X11_ahead_81 n1 m = some m' ∧ Fr m m' ∧ m'.1 0 12 = 2 ∧ m'.1 0 13 = m.1 0 13 ∧ m'.1 0 14 = nI (ru isL B k) ∧ m'.1 0 15 = m.1 0 15 := by
  have hb := hB.1
  intro j
  induction j with
  | zero =>
    intro k n1 m hj hk hn h h14
    obtain ⟨n1, rfl⟩ := fu_pos hn
    refine ⟨gI m 0 12 2, ?_, Fr.g (by omega) _, gI_at _ _ _, gI_of _ _ (by omega), ?_, gI_of _ _ (by omega)⟩
    · show b_X11_ahead_81 _ m = _
      unfold b_X11_ahead_81
      rw [h14, m_over h hB (by omega) (by omega), Option.bind_some, show F_X11_isSmall (-1 : Int32) = some 0 by decide, Option.bind_some, if_pos zer_eq]
    · rw [gI_of _ _ (by omega), h14, ru_stop (by rw [hB.2.2 k (by omega)]; decide)]
  | succ j ih =>
    intro k n1 m hj hk hn h h14
    obtain ⟨n1, rfl⟩ := fu_pos (show 0 < n1 by omega)
    have stop : isL (B k) = false → F_X11_byteAt m (nI k) = some (if k < n then nI (B k) else -1) → ∃ m', f_X11_ahead_81 (n1 + 1) m = some m' ∧ Fr m m' ∧ m'.1 0 12 = 2 ∧ m'.1 0 13 = m.1 0 13 ∧ m'.1 0 14 = nI (ru isL B k) ∧ m'.1 0 15 = m.1 0 15 := by
      intro hl hby
      refine ⟨gI m 0 12 2, ?_, Fr.g (by omega) _, gI_at _ _ _, gI_of _ _ (by omega), ?_, gI_of _ _ (by omega)⟩
      · show b_X11_ahead_81 _ m = _
        unfold b_X11_ahead_81
        rw [h14, hby, Option.bind_some]
        by_cases e : k < n
        · rw [if_pos e, m_small (hB.2.1 k e), Option.bind_some, ite01, hl, if_neg (by decide)]
        · rw [if_neg e, show F_X11_isSmall (-1 : Int32) = some 0 by decide, Option.bind_some, if_pos zer_eq]
      · rw [gI_of _ _ (by omega), h14, ru_stop (by rw [hl]; decide)]
    by_cases e : n ≤ k
    · exact stop (by rw [hB.2.2 k e]; decide) (by rw [m_over h hB e (by omega), if_neg (by omega)])
    · have hby := m_byte h hB (k := k) (by omega)
      cases q : isL (B k) with
      | false => exact stop q (by rw [hby, if_pos (by omega)])
      | true =>
        obtain ⟨m', g1, g2, g3, g4, g5, g6⟩ := ih (k + 1) n1 (gI m 0 14 (nI (k + 1))) (by omega) (by omega) (by omega) ((Fr.g (by omega) _).tm h) (gI_at _ _ _)
        refine ⟨m', ?_, (Fr.g (by omega) _).tr g2, g3, g4.trans (gI_of _ _ (by omega)), ?_, g6.trans (gI_of _ _ (by omega))⟩
        · show b_X11_ahead_81 _ m = _
          unfold b_X11_ahead_81
          rw [h14, hby, Option.bind_some, m_small (hB.2.1 k (by omega)), Option.bind_some, ite01, q, if_pos rfl, nI_1]
          exact g1
        · rw [g5, ← ru_go q (by omega)]
theorem nu_lt (B : Nat → Nat) (s : Nat) : ∀ k, (∀ i, i < k → isD (B (s + i)) = true) → nu B s k < 10 ^ k
  | 0, _ => by show 0 < 10 ^ 0; decide
  | k + 1, h => by
    have h1 := nu_lt B s k (fun i hi => h i (by omega))
    have h2 := isD_lt (h k (by omega))
    show 10 * nu B s k + (B (s + k) - 48) < 10 ^ (k + 1)
    rw [Nat.pow_succ]
    omega
/-- the value of a number is cut at 100000; a number that counts is never cut -/
theorem m_numb (hB : BT B n) {s : Nat} : ∀ (j k n1 : Nat) (m : GW), n - k ≤ j → s ≤ k → k ≤ n → j < n1 → TM m B n → m.1 0 13 = nI s → m.1 0 14 = nI k → (∀ i, s ≤ i → i < k → isD (B i) = true) → (∃ v, v ≤ 100000 ∧ m.1 0 15 = nI v ∧ (k - s ≤ 4 → v = nu B s (k - s))) → ∃ m', f_X11_ahead_128 n1 m = some m' ∧ Fr m m' ∧ m'.1 0 12 = (if 4 < ru isD B k - s then 1 else 3) ∧ m'.1 0 13 = nI s ∧ m'.1 0 14 = nI (ru isD B k) ∧ (ru isD B k - s ≤ 4 → m'.1 0 15 = nI (nu B s (ru isD B k - s))) := by
  have hb := hB.1
  intro j
  induction j with
  | zero =>
    intro k n1 m hj hs hk hn h h13 h14 hd hv
    obtain ⟨n1, rfl⟩ := fu_pos hn
    obtain ⟨v, v1, v2, v3⟩ := hv
    have er : ru isD B k = k := ru_stop (by rw [hB.2.2 k (by omega)]; decide)
    rw [er]
    refine ⟨gI m 0 12 (if 4 < k - s then 1 else 3), ?_, Fr.g (by omega) _, gI_at _ _ _, (gI_of _ _ (by omega)).trans h13, (gI_of _ _ (by omega)).trans h14, fun z => by rw [gI_of _ _ (by omega), v2, v3 z]⟩
    show b_X11_ahead_128 _ m = _
    unfold b_X11_ahead_128 f_X11_ahead_202
    rw [h14, h13, m_over h hB (by omega) (by omega), Option.bind_some, show F_X11_isDigit (-1 : Int32) = some 0 by decide, Option.bind_some, if_pos zer_eq, nI_sub hs]
    by_cases q : 4 < k - s
    · rw [if_neg (nI_nleR (by show 4 < k - s; omega) (by omega)), if_pos q]
    · rw [if_pos (nI_leR (by show k - s ≤ 4; omega) (by omega)), if_neg q]
  | succ j ih =>
    intro k n1 m hj hs hk hn h h13 h14 hd hv
    obtain ⟨n1, rfl⟩ := fu_pos (show 0 < n1 by omega)
    have stop : isD (B k) = false → F_X11_byteAt m (nI k) = some (if k < n then nI (B k) else -1) → ∃ m', f_X11_ahead_128 (n1 + 1) m = some m' ∧ Fr m m' ∧ m'.1 0 12 = (if 4 < ru isD B k - s then 1 else 3) ∧ m'.1 0 13 = nI s ∧ m'.1 0 14 = nI (ru isD B k) ∧ (ru isD B k - s ≤ 4 → m'.1 0 15 = nI (nu B s (ru isD B k - s))) := by
      intro hl hby
      obtain ⟨v, v1, v2, v3⟩ := hv
      have er : ru isD B k = k := ru_stop (by rw [hl]; decide)
      rw [er]
      refine ⟨gI m 0 12 (if 4 < k - s then 1 else 3), ?_, Fr.g (by omega) _, gI_at _ _ _, (gI_of _ _ (by omega)).trans h13, (gI_of _ _ (by omega)).trans h14, fun z => by rw [gI_of _ _ (by omega), v2, v3 z]⟩
      show b_X11_ahead_128 _ m = _
      unfold b_X11_ahead_128 f_X11_ahead_202
      have e0 : (F_X11_isDigit (if k < n then nI (B k) else -1)) = some 0 := by
        by_cases e : k < n
        · rw [if_pos e, m_digit (hB.2.1 k e), hl, if_neg (by decide)]
        · rw [if_neg e]; decide
      rw [h14, h13, hby, Option.bind_some, e0, Option.bind_some, if_pos zer_eq, nI_sub hs]
      by_cases q : 4 < k - s
      · rw [if_neg (nI_nleR (by show 4 < k - s; omega) (by omega)), if_pos q]
      · rw [if_pos (nI_leR (by show k - s ≤ 4; omega) (by omega)), if_neg q]
    by_cases e : n ≤ k
    · exact stop (by rw [hB.2.2 k e]; decide) (by rw [m_over h hB e (by omega), if_neg (by omega)])
    · have hby := m_byte h hB (k := k) (by omega)
      cases q : isD (B k) with
      | false => exact stop q (by rw [hby, if_pos (by omega)])
      | true =>
        have hq := isD_lt q
        obtain ⟨v, v1, v2, v3⟩ := hv
        have e15 : imin (100000 : Int32) ((((10 : Int32) * (nI v)) + nI (B k)) - (48 : Int32)) = nI (min 100000 (10 * v + B k - 48)) := by
          rw [nq_Lmul, nI_add, show nI (10 * v + B k) - (48 : Int32) = nI (10 * v + B k - 48) from nI_sub (a := 10 * v + B k) (b := 48) (by omega)]
          exact imin_nI (a := 100000) (b := 10 * v + B k - 48) (by omega) (by omega)
        have hvk : k + 1 - s ≤ 4 → min 100000 (10 * v + B k - 48) = nu B s (k + 1 - s) := by
          intro z
          have z2 := v3 (by omega)
          have z3 := nu_lt B s (k - s) (fun i hi => hd (s + i) (by omega) (by omega))
          have z4 : (10 : Nat) ^ (k - s) ≤ 10 ^ 3 := Nat.pow_le_pow_right (by omega) (by omega)
          rw [show k + 1 - s = (k - s) + 1 by omega]
          show _ = 10 * nu B s (k - s) + (B (s + (k - s)) - 48)
          rw [show s + (k - s) = k by omega, ← z2]
          have : v < 10 ^ 3 := by omega
          have h103 : (10 : Nat) ^ 3 = 1000 := by decide
          omega
        obtain ⟨m', g1, g2, g3, g4, g5, g6⟩ := ih (k + 1) n1 (gI (gI m 0 15 (nI (min 100000 (10 * v + B k - 48)))) 0 14 (nI (k + 1))) (by omega) (by omega) (by omega) (by omega) (((Fr.g (by omega) _).tr (Fr.g (by omega) _)).tm h) ((gI_of _ _ (by omega)).trans ((gI_of _ _ (by omega)).trans h13)) (gI_at _ _ _) (fun i h1 h2 => by
          by_cases z : i = k
          · rw [z]; exact q
          · exact hd i h1 (by omega)) ⟨_, by omega, (gI_of _ _ (by omega)).trans (gI_at _ _ _), hvk⟩
        rw [ru_go q (by omega)]
        refine ⟨m', ?_, ((Fr.g (by omega) _).tr (Fr.g (by omega) _)).tr g2, g3, g4, g5, g6⟩
        show b_X11_ahead_128 _ m = _
        unfold b_X11_ahead_128
        rw [h14, hby, Option.bind_some, m_digit (hB.2.1 k (by omega)), Option.bind_some, ite01, q, if_pos rfl, Option.bind_some, v2, e15, nI_1]
        exact g1
end
