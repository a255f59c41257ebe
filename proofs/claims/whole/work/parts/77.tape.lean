/-! The bytes of a text, as both read them. -/
def sg (c : Nat) : Int32 := if c < 128 then nI c else nI c - 256
theorem byte_both (v : Int8) : ∃ c : Nat, c ≤ 255 ∧ v.toInt32 = sg c ∧ v.toInt32 &&& (255 : Int32) = nI c := by
  have h : ∀ b : BitVec 8, (Int8.ofBitVec b).toInt32 = sg b.toNat ∧ (Int8.ofBitVec b).toInt32 &&& (255 : Int32) = nI b.toNat := by decide +kernel
  have h2 := h v.toBitVec
  have e : Int8.ofBitVec v.toBitVec = v := rfl
  rw [e] at h2
  exact ⟨v.toBitVec.toNat, by have := v.toBitVec.isLt; omega, h2.1, h2.2⟩
/-- the text's letters -/
def isL (c : Nat) : Bool := decide (97 ≤ c ∧ c ≤ 122)
def isD (c : Nat) : Bool := decide (48 ≤ c ∧ c ≤ 57)
def isB (c : Nat) : Bool := decide (c = 10 ∨ c = 32)
def isS (c : Nat) : Bool := decide (c = 59 ∨ c = 60 ∨ c = 62 ∨ c = 61)
def rn (P : Nat → Bool) (B : Nat → Nat) : Nat → Nat → Nat
  | 0, k => k
  | f + 1, k => if P (B k) = true then rn P B f (k + 1) else k
def ru (P : Nat → Bool) (B : Nat → Nat) (k : Nat) : Nat := rn P B (901 - k) k
/-- B shows n bytes, and 256 behind them -/
def BT (B : Nat → Nat) (n : Nat) : Prop := n ≤ 900 ∧ (∀ k, k < n → B k ≤ 255) ∧ ∀ k, n ≤ k → B k = 256
def TX (u : GW) (B : Nat → Nat) (n : Nat) : Prop := u.1 0 6 = nI n ∧ ∀ k, k < n → u.1 1 k = sg (B k)
def TM (m : GW) (B : Nat → Nat) (n : Nat) : Prop := m.1 0 11 = nI n ∧ ∀ k, k < n → m.1 7 k &&& (255 : Int32) = nI (B k)
section
variable {B : Nat → Nat} {n : Nat} {u m : GW}
theorem BT.lt (h : BT B n) {k : Nat} (hk : B k ≠ 256) : k < n := by
  rcases Nat.lt_or_ge k n with q | q
  · exact q
  · exact absurd (h.2.2 k q) hk
theorem ru_go {P : Nat → Bool} {k : Nat} (hP : P (B k) = true) (hk : k < 901) : ru P B k = ru P B (k + 1) := by
  unfold ru
  rw [show 901 - k = (901 - (k + 1)) + 1 by omega]
  exact if_pos hP
theorem ru_stop {P : Nat → Bool} {k : Nat} (hP : ¬ P (B k) = true) : ru P B k = k := by
  unfold ru
  cases 901 - k with
  | zero => rfl
  | succ f => exact if_neg hP
theorem rn_ge {P : Nat → Bool} : ∀ (f k : Nat), k ≤ rn P B f k ∧ (∀ j, k ≤ j → j < rn P B f k → P (B j) = true)
  | 0, k => ⟨Nat.le_refl k, fun j h1 h2 => by have h3 : j < k := h2; omega⟩
  | f + 1, k => by
    show k ≤ (if P (B k) = true then rn P B f (k + 1) else k) ∧ ∀ j, k ≤ j → j < (if P (B k) = true then rn P B f (k + 1) else k) → P (B j) = true
    by_cases e : P (B k) = true
    · rw [if_pos e]
      have h := rn_ge (P := P) f (k + 1)
      refine ⟨by omega, fun j h1 h2 => ?_⟩
      by_cases e2 : j = k
      · rw [e2]; exact e
      · exact h.2 j (by omega) h2
    · rw [if_neg e]
      exact ⟨Nat.le_refl k, fun j h1 h2 => by omega⟩
theorem ru_ge {P : Nat → Bool} (k : Nat) : k ≤ ru P B k := (rn_ge _ k).1
theorem ru_all {P : Nat → Bool} {k j : Nat} (h1 : k ≤ j) (h2 : j < ru P B k) : P (B j) = true := (rn_ge _ k).2 j h1 h2
theorem ru_le (h : BT B n) {P : Nat → Bool} (hP : P 256 = false) {k : Nat} (hk : k ≤ n) : ru P B k ≤ n := by
  rcases Nat.lt_or_ge n (ru P B k) with q | q
  · have := ru_all (B := B) hk q
    rw [h.2.2 n (Nat.le_refl n), hP] at this
    exact absurd this (by decide)
  · exact q
theorem ru_end (h : BT B n) {P : Nat → Bool} (hP : P 256 = false) : ∀ (j k : Nat), n - k ≤ j → k ≤ n → P (B (ru P B k)) = false := by
  intro j
  induction j with
  | zero =>
    intro k hj hk
    have e : P (B k) = false := by rw [h.2.2 k (by omega)]; exact hP
    rw [ru_stop (by rw [e]; decide)]
    exact e
  | succ j ih =>
    intro k hj hk
    cases e : P (B k) with
    | false =>
      rw [ru_stop (by rw [e]; decide)]
      exact e
    | true =>
      have hkn : k < n := h.lt (fun q => by rw [q, hP] at e; exact absurd e (by decide))
      have := h.1
      rw [ru_go e (by omega)]
      exact ih (k + 1) (by omega) (by omega)
/-! class -/
theorem sg_small {c : Nat} (h : c < 128) : sg c = nI c := if_pos h
theorem sg_neg : ∀ c : Fin 256, 128 ≤ c.val → sg c.val < 0 ∧ sg c.val ≠ -200 := by decide +kernel
theorem sg_lt {c t : Nat} (hc : c ≤ 255) (ht : t ≤ 128) : (sg c < nI t) = (c < t ∨ 128 ≤ c) := by
  by_cases h : c < 128
  · rw [sg_small h]
    exact propext ⟨fun q => Or.inl ((nI_ltI (by omega) (by omega)).mp q), fun q => (nI_ltI (by omega) (by omega)).mpr (by omega)⟩
  · have h2 := (sg_neg ⟨c, by omega⟩ (by show 128 ≤ c; omega)).1
    refine propext ⟨fun _ => Or.inr (by omega), fun _ => ?_⟩
    have h3 : (0 : Int32) ≤ nI t := (nI_leI (a := 0) (by omega) (by omega)).mpr (by omega)
    have h4 : sg c < (0 : Int32) := h2
    exact Int32.lt_of_lt_of_le h4 h3
theorem sg_eq {c t : Nat} (hc : c ≤ 255) (ht : t < 128) : (sg c = nI t) = (c = t) := by
  by_cases h : c < 128
  · rw [sg_small h]
    exact propext (nI_eq (by omega) (by omega))
  · have h2 := (sg_neg ⟨c, by omega⟩ (by show 128 ≤ c; omega)).1
    refine propext ⟨fun e => ?_, fun e => absurd e (by omega)⟩
    have h3 : (0 : Int32) ≤ nI t := (nI_leI (a := 0) (by omega) (by omega)).mpr (by omega)
    rw [← e] at h3
    have h4 : sg c < (0 : Int32) := h2
    exact absurd (Int32.lt_of_lt_of_le h4 h3) (fun q => Int32.lt_irrefl q)
theorem sg_gt {c t : Nat} (hc : c ≤ 255) (ht : t ≤ 127) : (nI t < sg c) = (t < c ∧ c < 128) := by
  by_cases h : c < 128
  · rw [sg_small h]
    exact propext ⟨fun q => ⟨(nI_ltI (by omega) (by omega)).mp q, h⟩, fun q => (nI_ltI (by omega) (by omega)).mpr q.1⟩
  · have h2 := (sg_neg ⟨c, by omega⟩ (by show 128 ≤ c; omega)).1
    refine propext ⟨fun e => ?_, fun e => absurd e.2 h⟩
    have h3 : (0 : Int32) ≤ nI t := (nI_leI (a := 0) (by omega) (by omega)).mpr (by omega)
    have h4 : sg c < (0 : Int32) := h2
    exact absurd (Int32.lt_trans (Int32.lt_of_le_of_lt h3 e) h4) (fun q => Int32.lt_irrefl q)
theorem x_byte (h : TX u B n) (hB : BT B n) {k : Nat} (hk : k < n) : F_X8_byteAt u (nI k) = some (sg (B k)) := by
  have := hB.1
  unfold F_X8_byteAt
  rw [if_neg (nI_pos (by omega)), h.1, if_neg (nI_ge hk (by omega)), if_neg (nI_geL (by show k < 900; omega) (by omega)), if_pos (gin_nI (by omega) (by omega)), nI_clamp (by omega), h.2 k hk]
theorem x_isB (h : TX u B n) (hB : BT B n) {k : Nat} (hk : k < n) : F_X8_isBlank u (nI k) = some (if isB (B k) = true then 1 else 0) := by
  have hb := hB.2.1 k hk
  unfold F_X8_isBlank
  rw [x_byte h hB hk, Option.bind_some, Option.bind_some]
  have e1 : (sg (B k) = (10 : Int32)) = (B k = 10) := sg_eq (t := 10) hb (by omega)
  have e2 : (sg (B k) = (32 : Int32)) = (B k = 32) := sg_eq (t := 32) hb (by omega)
  unfold isB
  by_cases q : B k = 10
  · rw [if_pos (e1 ▸ q), if_pos (by simp [q])]
  · rw [if_neg (e1 ▸ q)]
    by_cases q2 : B k = 32
    · rw [if_pos (e2 ▸ q2), if_pos (by simp [q2])]
    · rw [if_neg (e2 ▸ q2), if_neg (by simp [q, q2])]
theorem x_isL (h : TX u B n) (hB : BT B n) {k : Nat} (hk : k < n) : F_X8_isLetter u (nI k) = some (if isL (B k) = true then 1 else 0) := by
  have hb := hB.2.1 k hk
  unfold F_X8_isLetter
  rw [x_byte h hB hk, Option.bind_some, Option.bind_some]
  have e1 : (sg (B k) < (97 : Int32)) = (B k < 97 ∨ 128 ≤ B k) := sg_lt (t := 97) hb (by omega)
  have e2 : ((122 : Int32) < sg (B k)) = (122 < B k ∧ B k < 128) := sg_gt (t := 122) hb (by omega)
  unfold isL
  by_cases q : B k < 97 ∨ 128 ≤ B k
  · rw [if_pos (e1 ▸ q), if_neg (by simp; omega)]
  · rw [if_neg (e1 ▸ q)]
    by_cases q2 : 122 < B k ∧ B k < 128
    · rw [if_pos (e2 ▸ q2), if_neg (by simp; omega)]
    · rw [if_neg (e2 ▸ q2), if_pos (by simp; omega)]
theorem x_isD (h : TX u B n) (hB : BT B n) {k : Nat} (hk : k < n) : F_X8_isDigit u (nI k) = some (if isD (B k) = true then 1 else 0) := by
  have hb := hB.2.1 k hk
  unfold F_X8_isDigit
  rw [x_byte h hB hk, Option.bind_some, Option.bind_some]
  have e1 : (sg (B k) < (48 : Int32)) = (B k < 48 ∨ 128 ≤ B k) := sg_lt (t := 48) hb (by omega)
  have e2 : ((57 : Int32) < sg (B k)) = (57 < B k ∧ B k < 128) := sg_gt (t := 57) hb (by omega)
  unfold isD
  by_cases q : B k < 48 ∨ 128 ≤ B k
  · rw [if_pos (e1 ▸ q), if_neg (by simp; omega)]
  · rw [if_neg (e1 ▸ q)]
    by_cases q2 : 57 < B k ∧ B k < 128
    · rw [if_pos (e2 ▸ q2), if_neg (by simp; omega)]
    · rw [if_neg (e2 ▸ q2), if_pos (by simp; omega)]
theorem x_isS (h : TX u B n) (hB : BT B n) {k : Nat} (hk : k < n) : F_X8_isSignAt u (nI k) = some (if isS (B k) = true then 1 else 0) := by
  have hb := hB.2.1 k hk
  unfold F_X8_isSignAt
  rw [x_byte h hB hk, Option.bind_some]
  have e1 : (sg (B k) = (59 : Int32)) = (B k = 59) := sg_eq (t := 59) hb (by omega)
  have e2 : (sg (B k) = (60 : Int32)) = (B k = 60) := sg_eq (t := 60) hb (by omega)
  have e3 : (sg (B k) = (62 : Int32)) = (B k = 62) := sg_eq (t := 62) hb (by omega)
  have e4 : (sg (B k) = (61 : Int32)) = (B k = 61) := sg_eq (t := 61) hb (by omega)
  unfold isS
  by_cases q : B k = 59
  · rw [if_pos (e1 ▸ q), if_pos (by simp [q])]
  · rw [if_neg (e1 ▸ q)]
    by_cases q2 : B k = 60
    · rw [if_pos (e2 ▸ q2), if_pos (by simp [q2])]
    · rw [if_neg (e2 ▸ q2)]
      by_cases q3 : B k = 62
      · rw [if_pos (e3 ▸ q3), if_pos (by simp [q3])]
      · rw [if_neg (e3 ▸ q3)]
        by_cases q4 : B k = 61
        · rw [if_pos (e4 ▸ q4), if_pos (by simp [q4])]
        · rw [if_neg (e4 ▸ q4), if_neg (by simp [q, q2, q3, q4])]
/-! reference -/
theorem m_byte (h : TM m B n) (hB : BT B n) {k : Nat} (hk : k < n) : F_X11_byteAt m (nI k) = some (nI (B k)) := by
  have := hB.1
  unfold F_X11_byteAt
  rw [h.1, if_neg (nI_ge hk (by omega)), if_pos (gin_nI (by omega) (by omega)), nI_clamp (by omega), h.2 k hk]
theorem m_over (h : TM m B n) (hB : BT B n) {k : Nat} (hk : n ≤ k) (hk2 : k < 1000) : F_X11_byteAt m (nI k) = some (-1 : Int32) := by
  unfold F_X11_byteAt
  rw [h.1, if_pos (nI_le hk (by omega))]
theorem m_small {c : Nat} (h : c ≤ 255) : F_X11_isSmall (nI c) = some (if isL c = true then 1 else 0) := by
  unfold F_X11_isSmall isL
  by_cases q : c < 97
  · rw [if_pos (nI_ltL (by show c < 97; omega) (by omega)), if_neg (by simp; omega)]
  · rw [if_neg (nI_nltL (by show 97 ≤ c; omega) (by omega))]
    by_cases q2 : 122 < c
    · rw [if_pos (nI_gtL (by show 122 < c; omega) (by omega)), if_neg (by simp; omega)]
    · rw [if_neg (nI_ngtL (by show c ≤ 122; omega) (by omega)), if_pos (by simp; omega)]
theorem m_digit {c : Nat} (h : c ≤ 255) : F_X11_isDigit (nI c) = some (if isD c = true then 1 else 0) := by
  unfold F_X11_isDigit isD
  by_cases q : c < 48
  · rw [if_pos (nI_ltL (by show c < 48; omega) (by omega)), if_neg (by simp; omega)]
  · rw [if_neg (nI_nltL (by show 48 ≤ c; omega) (by omega))]
    by_cases q2 : 57 < c
    · rw [if_pos (nI_gtL (by show 57 < c; omega) (by omega)), if_neg (by simp; omega)]
    · rw [if_neg (nI_ngtL (by show c ≤ 57; omega) (by omega)), if_pos (by simp; omega)]
end
