section
variable {B : Nat → Nat} {n : Nat} {u m : GW}
theorem m_here (hB : BT B n) {p : Nat} (hp : p ≤ n) (h : TM m B n) (h14 : m.1 0 14 = nI (tS B p)) (n1 : Nat) : ∃ m', f_X11_ahead_0 (n1 + 1) m = some m' ∧ Fr m m' ∧ MT m' B p := by
  have hb := hB.1
  have hF := FU_big
  have hs := tS_le hB hp
  have hbl : isB (B (tS B p)) = false := ru_end hB (by decide) (n - p) p (by omega) hp
  have hL : tE B p - tS B p = tL B p := rfl
  show ∃ m', b_X11_ahead_0 _ m = some m' ∧ _
  unfold b_X11_ahead_0 f_X11_ahead_243 f_X11_ahead_248
  rw [h14]
  by_cases e : tS B p < n
  · have hby := m_byte h hB e
    have hc := hB.2.1 _ e
    have h1 : Fr m (gI m 0 13 (nI (tS B p))) := Fr.g (by omega) _
    have hby2 := m_byte (h1.tm h) hB e
    have hn32 : ¬ nI (B (tS B p)) = (32 : Int32) := by
      apply nI_neL _ (by omega) (by omega)
      show B (tS B p) ≠ 32
      intro z
      rw [z] at hbl
      exact absurd hbl (by decide)
    have hn10 : ¬ nI (B (tS B p)) = (10 : Int32) := by
      apply nI_neL _ (by omega) (by omega)
      show B (tS B p) ≠ 10
      intro z
      rw [z] at hbl
      exact absurd hbl (by decide)
    rw [hby, Option.bind_some, if_neg hn32, Option.bind_some, if_neg hn10, hby2, Option.bind_some, if_neg (nI_nm (by omega)), m_small hc, Option.bind_some, ite01, m_digit hc, Option.bind_some, ite01]
    have h2 : Fr m (gI (gI m 0 13 (nI (tS B p))) 0 15 (nI (B (tS B p)))) := h1.tr (Fr.g (by omega) _)
    by_cases q : isL (B (tS B p)) = true
    · have hE : tE B p = ru isL B (tS B p) := if_pos q
      have hK : mK B p = 2 := if_pos q
      rw [if_pos q]
      obtain ⟨m', g1, g2, g3, g4, g5, g6⟩ := m_word hB (n - tS B p) (tS B p) FU (gI (gI m 0 13 (nI (tS B p))) 0 15 (nI (B (tS B p)))) (by omega) hs (by omega) (h2.tm h) ((gI_of _ _ (by omega)).trans ((gI_of _ _ (by omega)).trans h14))
      refine ⟨m', g1, h2.tr g2, g3.trans hK.symm, g4.trans ((gI_of _ _ (by omega)).trans (gI_at _ _ _)), fun _ => by rw [g5, hE], fun z => ?_, fun z => ?_⟩
      · rw [hK] at z; exact absurd z (by decide)
      · rw [hK] at z; exact absurd z (by decide)
    · rw [if_neg q]
      by_cases q2 : isD (B (tS B p)) = true
      · have hE : tE B p = ru isD B (tS B p) := by unfold tE; rw [if_neg q, if_pos q2]
        have hL2 : ru isD B (tS B p) - tS B p = tL B p := by rw [← hE]; rfl
        rw [if_pos q2]
        obtain ⟨m', g1, g2, g3, g4, g5, g6⟩ := m_numb hB (s := tS B p) (n - tS B p) (tS B p) FU (gI (gI (gI m 0 13 (nI (tS B p))) 0 15 (nI (B (tS B p)))) 0 15 0) (by omega) (by omega) hs (by omega) ((h2.tr (Fr.g (by omega) _)).tm h) ((gI_of _ _ (by omega)).trans ((gI_of _ _ (by omega)).trans (gI_at _ _ _))) ((gI_of _ _ (by omega)).trans ((gI_of _ _ (by omega)).trans ((gI_of _ _ (by omega)).trans h14))) (fun i h3 h4 => by omega) ⟨0, by omega, gI_at _ _ _, fun _ => by rw [Nat.sub_self]; rfl⟩
        rw [hL2] at g3 g6
        have hK : mK B p = (if 4 < tL B p then 1 else 3) := by unfold mK; rw [if_neg q, if_pos q2]
        refine ⟨m', g1, (h2.tr (Fr.g (by omega) _)).tr g2, g3.trans hK.symm, g4, fun _ => by rw [g5, hE], fun z => g6 ?_, fun z => ?_⟩
        · rcases Nat.lt_or_ge 4 (tL B p) with z2 | z2
          · rw [hK, if_pos z2] at z; exact absurd z (by decide)
          · exact z2
        · rw [hK] at z
          by_cases z2 : 4 < tL B p
          · rw [if_pos z2] at z; exact absurd z (by decide)
          · rw [if_neg z2] at z; exact absurd z (by decide)
      · rw [if_neg q2]
        have sign : isS (B (tS B p)) = true → ∃ m', some (gI (gI (gI (gI m 0 13 (nI (tS B p))) 0 15 (nI (B (tS B p)))) 0 14 (nI (tS B p) + 1)) 0 12 (4 : Int32)) = some m' ∧ Fr m m' ∧ MT m' B p := by
          intro q3
          have hE : tE B p = tS B p + 1 := by unfold tE; rw [if_neg q, if_neg q2, if_pos q3]
          have hK : mK B p = 4 := by unfold mK; rw [if_neg q, if_neg q2, if_pos q3]
          refine ⟨_, rfl, (h2.tr (Fr.g (by omega) _)).tr (Fr.g (by omega) _), ?_, ?_, ?_, fun z => ?_, fun z => ?_⟩
          · rw [gI_at, hK]
          · rw [gI_of _ _ (by omega), gI_of _ _ (by omega), gI_of _ _ (by omega), gI_at]
          · intro _; rw [gI_of _ _ (by omega), gI_at, nI_1, hE]
          · rw [hK] at z; exact absurd z (by decide)
          · rw [gI_of _ _ (by omega), gI_of _ _ (by omega), gI_at]
        have e1 : (nI (B (tS B p)) = (59 : Int32)) = (B (tS B p) = 59) := nq_eq (a := B (tS B p)) (b := 59) (by omega) (by omega)
        have e2 : (nI (B (tS B p)) = (60 : Int32)) = (B (tS B p) = 60) := nq_eq (a := B (tS B p)) (b := 60) (by omega) (by omega)
        have e3 : (nI (B (tS B p)) = (62 : Int32)) = (B (tS B p) = 62) := nq_eq (a := B (tS B p)) (b := 62) (by omega) (by omega)
        have e4 : (nI (B (tS B p)) = (61 : Int32)) = (B (tS B p) = 61) := nq_eq (a := B (tS B p)) (b := 61) (by omega) (by omega)
        have ew : (gI (gI m 0 13 (nI (tS B p))) 0 15 (nI (B (tS B p)))).1 0 14 = nI (tS B p) := (gI_of _ _ (by omega)).trans ((gI_of _ _ (by omega)).trans h14)
        by_cases q3 : B (tS B p) = 59
        · rw [if_pos (e1 ▸ q3)]; exact sign (by unfold isS; simp [q3])
        · rw [if_neg (e1 ▸ q3)]
          by_cases q4 : B (tS B p) = 60
          · rw [if_pos (e2 ▸ q4)]; exact sign (by unfold isS; simp [q4])
          · rw [if_neg (e2 ▸ q4)]
            by_cases q5 : B (tS B p) = 62
            · rw [if_pos (e3 ▸ q5)]; exact sign (by unfold isS; simp [q5])
            · rw [if_neg (e3 ▸ q5)]
              by_cases q6 : B (tS B p) = 61
              · rw [if_pos (e4 ▸ q6)]; exact sign (by unfold isS; simp [q6])
              · rw [if_neg (e4 ▸ q6)]
                have hS : ¬ isS (B (tS B p)) = true := by unfold isS; simp [q3, q4, q5, q6]
                have hE : tE B p = tS B p := by unfold tE; rw [if_neg q, if_neg q2, if_neg hS]
                have hK : mK B p = 1 := by unfold mK; rw [if_neg q, if_neg q2, if_neg hS, if_neg (by omega)]
                refine ⟨_, rfl, (h2.tr (Fr.g (k := 14) (by omega) _)).tr (Fr.g (k := 12) (by omega) _), ?_, ?_, fun z => absurd hK z, fun z => ?_, fun z => ?_⟩
                · rw [gI_at, hK]
                · rw [gI_of _ _ (by omega), gI_of _ _ (by omega), gI_of _ _ (by omega), gI_at]
                · rw [hK] at z; exact absurd z (by decide)
                · rw [hK] at z; exact absurd z (by decide)
  · have h256 := hB.2.2 (tS B p) (by omega)
    have hby := m_over h hB (k := tS B p) (by omega) (by omega)
    have h1 : Fr m (gI m 0 13 (nI (tS B p))) := Fr.g (by omega) _
    have hby2 := m_over (h1.tm h) hB (k := tS B p) (by omega) (by omega)
    have hE : tE B p = tS B p := by unfold tE; rw [h256, if_neg (by decide), if_neg (by decide), if_neg (by decide)]
    have hK : mK B p = 0 := by unfold mK; rw [h256, if_neg (by decide), if_neg (by decide), if_neg (by decide), if_pos rfl]
    rw [hby, Option.bind_some, if_neg (by decide), Option.bind_some, if_neg (by decide), hby2, Option.bind_some, if_pos rfl]
    refine ⟨_, rfl, (h1.tr (Fr.g (k := 15) (by omega) _)).tr (Fr.g (k := 12) (by omega) _), ?_, ?_, ?_, fun z => ?_, fun z => ?_⟩
    · rw [gI_at, hK]
    · rw [gI_of _ _ (by omega), gI_of _ _ (by omega), gI_at]
    · intro _; rw [gI_of _ _ (by omega), gI_of _ _ (by omega), gI_of _ _ (by omega), h14, hE]
    · rw [hK] at z; exact absurd z (by decide)
    · rw [hK] at z; exact absurd z (by decide)
theorem m_skip (hB : BT B n) {p : Nat} (hp : p ≤ n) : ∀ (j k n1 : Nat) (m : GW), tS B p - k ≤ j → p ≤ k → k ≤ tS B p → j < n1 → TM m B n → m.1 0 14 = nI k → ∃ m', f_X11_ahead_0 n1 m = some m' ∧ Fr m m' ∧ MT m' B p := by
  have hb := hB.1
  have hs := tS_le hB hp
  intro j
  induction j with
  | zero =>
    intro k n1 m hj hk hk2 hn h h14
    obtain ⟨n1, rfl⟩ := fu_pos hn
    exact m_here hB hp h (by rw [h14, show k = tS B p by omega]) n1
  | succ j ih =>
    intro k n1 m hj hk hk2 hn h h14
    obtain ⟨n1, rfl⟩ := fu_pos (show 0 < n1 by omega)
    by_cases e : k = tS B p
    · exact m_here hB hp h (by rw [h14, e]) n1
    · have q : isB (B k) = true := ru_all hk (show k < ru isB B p by have : tS B p = ru isB B p := rfl; omega)
      have hkn : k < n := by omega
      have hby := m_byte h hB hkn
      obtain ⟨m', g1, g2, g3⟩ := ih (k + 1) n1 (gI m 0 14 (nI (k + 1))) (by omega) (by omega) (by omega) (by omega) ((Fr.g (by omega) _).tm h) (gI_at _ _ _)
      refine ⟨m', ?_, (Fr.g (by omega) _).tr g2, g3⟩
      show b_X11_ahead_0 _ m = _
      unfold b_X11_ahead_0 f_X11_ahead_26
      have q2 : B k = 10 ∨ B k = 32 := of_decide_eq_true q
      rw [h14, hby, Option.bind_some, nI_1]
      rcases q2 with z | z
      · rw [if_neg (by rw [z]; decide), Option.bind_some, if_pos (by rw [z]; rfl)]
        exact g1
      · rw [if_pos (by rw [z]; rfl)]
        exact g1
theorem m_ahead (hB : BT B n) {p : Nat} (hp : p ≤ n) (h : TM m B n) (h14 : m.1 0 14 = nI p) : ∃ m', F_X11_ahead m = some m' ∧ Fr m m' ∧ MT m' B p := by
  have hb := hB.1
  have hs := tS_le hB hp
  exact m_skip hB hp (tS B p - p) p FU m (by omega) (by omega) (ru_ge _) (by have := FU_big; omega) h h14
end
