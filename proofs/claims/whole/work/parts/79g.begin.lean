/-! Both begin a text. -/
/-- what the begin of a text leaves alone in the reference -/
def Fb (m m' : GW) : Prop := m'.2 = m.2 ∧ (∀ i, i ≠ 0 → i ≠ 7 → m'.1 i = m.1 i) ∧ ∀ k, (k < 10 ∨ 19 < k ∨ k = 16) → m'.1 0 k = m.1 0 k
section
variable {B : Nat → Nat} {n T i : Nat} {u m : GW}
theorem m_copy : ∀ (j k n1 : Nat) (w : GW), k + j = n → n ≤ 900 → j < n1 → ∃ w', w'.2 = w.2 ∧ (∀ i, i ≠ 7 → w'.1 i = w.1 i) ∧ (∀ q, k ≤ q → q < n → w'.1 7 q = vp_nar .byte (w.1 6 q)) ∧ (∀ q, q < k → w'.1 7 q = w.1 7 q) ∧
    f_X11_begins_26 n1 (nI n) (nI k) w = (F_X11_ahead (gI (gI (gI (gI (gI w' 0 10 (0 : Int32)) 0 18 (0 : Int32)) 0 17 (-1 : Int32)) 0 14 (0 : Int32)) 0 19 (0 : Int32))).bind fun q5 => (some ((1 : Int32), q5)) := by
  intro j
  induction j with
  | zero =>
    intro k n1 w hj h9 hn
    obtain ⟨n1, rfl⟩ := fu_pos hn
    refine ⟨w, rfl, fun _ _ => rfl, fun q h1 h2 => by omega, fun _ _ => rfl, ?_⟩
    show b_X11_begins_26 _ (nI n) (nI k) w = _
    unfold b_X11_begins_26
    rw [if_pos (nI_le (by omega) (by omega))]
  | succ j ih =>
    intro k n1 w hj h9 hn
    obtain ⟨n1, rfl⟩ := fu_pos (show 0 < n1 by omega)
    obtain ⟨w', g1, g2, g3, g4, g5⟩ := ih (k + 1) n1 (gI w 7 k (vp_nar .byte (w.1 6 k))) (by omega) h9 (by omega)
    refine ⟨w', g1, fun i hi => (g2 i hi).trans (funext fun q => if_neg (fun z => hi z.1)), fun q h1 h2 => ?_, fun q h1 => ?_, ?_⟩
    · by_cases e : q = k
      · subst e
        rw [g4 q (by omega)]
        exact if_pos ⟨rfl, rfl⟩
      · rw [g3 q (by omega) h2]
        rfl
    · rw [g4 q (by omega)]
      exact if_neg (fun z => by omega)
    · show b_X11_begins_26 _ (nI n) (nI k) w = _
      unfold b_X11_begins_26
      rw [if_neg (nI_ge (by omega) (by omega)), if_pos (gin_nI (by omega) (by omega)), nI_clamp (by omega), nI_1]
      exact g5
theorem y_begin {n0 hi : Nat} (h0 : n ≤ n0) (h9 : n0 ≤ 900) (hh : n ≤ hi) (hh2 : hi ≤ 900) (hm : m.1 0 10 = nI n0) (hb : ∀ k, k < n0 → u.1 1 k = m.1 6 k ∧ ∃ v : Int8, u.1 1 k = v.toInt32) : ∃ u' m' B T, F_X8_begin (nI n) u = some u' ∧ F_X11_begins (nI n) (nI hi) m = some (1, m') ∧ SY u' m' B n T 0 ∧ NE u' m' ∧ Fb m m' := by
  have hF := FU_big
  let B : Nat → Nat := fun k => if k < n then (u.1 1 k &&& (255 : Int32)).toNatClampNeg else 256
  have hBk : ∀ k, k < n → B k ≤ 255 ∧ u.1 1 k = sg (B k) ∧ u.1 1 k &&& (255 : Int32) = nI (B k) := by
    intro k hk
    obtain ⟨_, v, hv⟩ := hb k (by omega)
    obtain ⟨c, c1, c2, c3⟩ := byte_both v
    have e : B k = c := by
      show (if k < n then (u.1 1 k &&& (255 : Int32)).toNatClampNeg else 256) = c
      rw [if_pos hk, hv, c3, nI_clamp (by omega)]
    rw [e, hv]
    exact ⟨c1, c2, c3⟩
  have hB : BT B n := ⟨by omega, fun k hk => (hBk k hk).1, fun k hk => if_neg (by omega)⟩
  have e8 : F_X8_begin (nI n) u = f_X8_begin_20 (nI n) (gI u 0 0 0) := by
    unfold F_X8_begin
    by_cases e : n = 900
    · subst e
      rw [if_pos (by decide)]
      rfl
    · rw [if_neg (nI_geL (by show n < 900; omega) (by omega))]
  have hTX : TX (gI (gI (gI (gI (gI (gI u 0 0 0) 0 6 (nI n)) 0 10 (0 : Int32)) 0 4 (0 : Int32)) 0 5 (-1 : Int32)) 0 12 (0 : Int32)) B n := ⟨rfl, fun k hk => (hBk k hk).2.1⟩
  obtain ⟨u1, T, t1, t2, t3, t4, t5, t6, t7⟩ := x_begin_l hB 901 0 FU _ (by omega) (by omega) hTX ⟨rfl, fun i hi => absurd hi (by omega)⟩ (fun i hi => absurd hi (by omega)) rfl
  obtain ⟨u', g1, g2, g3, g4, g5, g6, g7, g8, g9, g10, g11⟩ := x_load (u := gI u1 0 11 0) (B := B) (T := T) (j := 0) ⟨t4.1, t4.2⟩ t1 t2 rfl
  obtain ⟨w', w1, w2, w3, w4, w5⟩ := m_copy (n := n) n 0 FU (gI m 0 11 (nI n)) (by omega) (by omega) (by omega)
  have hTM : TM (gI (gI (gI (gI (gI w' 0 10 (0 : Int32)) 0 18 (0 : Int32)) 0 17 (-1 : Int32)) 0 14 (0 : Int32)) 0 19 (0 : Int32)) B n := by
    refine ⟨?_, fun k hk => ?_⟩
    · show w'.1 0 11 = nI n
      rw [w2 0 (by omega)]
      rfl
    · show w'.1 7 k &&& (255 : Int32) = _
      obtain ⟨b1, v, b2⟩ := hb k (by omega)
      rw [w3 k (by omega) hk, show (gI m 0 11 (nI n)).1 6 k = m.1 6 k from rfl, ← b1, b2, vp_nar_byte, Int8.toInt8_toInt32, ← b2]
      exact (hBk k hk).2.2
  obtain ⟨m', k1, k2, k3⟩ := m_ahead hB (p := 0) (by omega) hTM rfl
  refine ⟨u', m', B, T, ?_, ?_, ⟨⟨hB, ⟨?_, fun k hk => ?_⟩, k2.tm hTM, ?_, fun j hj => ?_⟩, ⟨t2, t5, t6, t1⟩, ⟨g5, g6, g7, g8, g9⟩, k3, ?_, ?_⟩, ⟨?_, ?_, ?_, ?_⟩, ?_, fun i h1 h2 => ?_, fun k hk => ?_⟩
  · rw [e8]
    unfold f_X8_begin_20
    rw [show f_X8_begin_47 FU (0 : Int32) (0 : Int32) _ = _ from t7]
    unfold f_X8_begin_73
    rw [g1, Option.bind_some]
  · unfold F_X11_begins
    rw [if_neg (nI_pos (by omega)), hm, if_neg (nI_nlt (by omega) (by omega)), if_pos (nI_le hh (by omega)), show f_X11_begins_26 FU (nI n) (0 : Int32) (gI m 0 11 (nI n)) = _ from w5, k1, Option.bind_some]
  · rw [g4 6 (by omega)]
    exact t3.2 6 (by omega) (by omega)
  · rw [g2 1 (by omega)]
    show u1.1 1 k = _
    rw [t3.1]
    exact (hBk k hk).2.1
  · rw [g4 10 (by omega)]
    exact t4.1
  · rw [g2 2 (by omega), g2 3 (by omega), g3 4 (by omega)]
    exact t4.2 j hj
  · rw [g4 0 (by omega)]
    exact t3.2 0 (by omega) (by omega)
  · rw [k2.2.2 10 (by omega)]
    rfl
  · rw [g4 4 (by omega)]
    exact t3.2 4 (by omega) (by omega)
  · rw [g4 5 (by omega)]
    exact t3.2 5 (by omega) (by omega)
  · rw [k2.2.2 18 (by omega)]
    rfl
  · rw [k2.2.2 17 (by omega)]
    rfl
  · rw [k2.1]
    exact w1
  · rw [k2.2.1 i h1, gI_c0 _ h1, gI_c0 _ h1, gI_c0 _ h1, gI_c0 _ h1, gI_c0 _ h1, w2 i h2, gI_c0 _ h1]
  · rw [k2.2.2 k (by omega), gI_of _ _ (by omega), gI_of _ _ (by omega), gI_of _ _ (by omega), gI_of _ _ (by omega), gI_of _ _ (by omega), w2 0 (by omega), gI_of _ _ (by omega)]
end
