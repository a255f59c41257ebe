/-! The tokens of a text; the class finds them all at once. -/
def nl (B : Nat → Nat) (s : Nat) : Nat → List Nat
  | 0 => []
  | k + 1 => (B (s + k) - 96) :: nl B s k
def nu (B : Nat → Nat) (s : Nat) : Nat → Nat
  | 0 => 0
  | k + 1 => 10 * nu B s k + (B (s + k) - 48)
def tS (B : Nat → Nat) (p : Nat) : Nat := ru isB B p
def tE (B : Nat → Nat) (p : Nat) : Nat := if isL (B (tS B p)) = true then ru isL B (tS B p) else if isD (B (tS B p)) = true then ru isD B (tS B p) else if isS (B (tS B p)) = true then tS B p + 1 else tS B p
def tL (B : Nat → Nat) (p : Nat) : Nat := tE B p - tS B p
def tW (B : Nat → Nat) (p : Nat) : Int32 := kfind wdC (lw B (tS B p) (tL B p)) 0
def tK (B : Nat → Nat) (p : Nat) : Int32 := if isL (B (tS B p)) = true then (if tW B p = (-1 : Int32) then (if 8 < tL B p then 5 else 2) else 1) else if isD (B (tS B p)) = true then (if 4 < tL B p then 6 else 3) else if isS (B (tS B p)) = true then 4 else if B (tS B p) = 256 then 0 else 6
def tV (B : Nat → Nat) (p : Nat) : Int64 := if isL (B (tS B p)) = true then (if tW B p = (-1 : Int32) then lN (nmC (nl B (tS B p) (tL B p))) else (tW B p).toInt64) else if isD (B (tS B p)) = true then lN (nu B (tS B p) (tL B p)) else if isS (B (tS B p)) = true then lN (B (tS B p)) else 0
/-- a token that others may follow -/
def tO (B : Nat → Nat) (p : Nat) : Prop := tK B p ≠ 0 ∧ tK B p ≠ 6
def AT (u : GW) (T : Nat) (kd : Int32) (pl : Nat) (v : Int64) : GW := gI (gI (gL (gI (gI u 2 T kd) 3 T (nI pl)) 4 T v) 0 10 (nI (T + 1))) 0 12 (if kd = 0 ∨ kd = 6 then 1 else 0)
section
variable {B : Nat → Nat} {n : Nat} {u m : GW}
theorem isL_lt {c : Nat} (h : isL c = true) : 97 ≤ c ∧ c ≤ 122 := of_decide_eq_true h
theorem isD_lt {c : Nat} (h : isD c = true) : 48 ≤ c ∧ c ≤ 57 := of_decide_eq_true h
theorem x_add {T : Nat} (hT : T < 901) (h10 : u.1 0 10 = nI T) (kd : Int32) (pl : Nat) (v : Int64) : F_X8_addToken kd (nI pl) v u = some (AT u T kd pl v) := by
  unfold F_X8_addToken f_X8_addToken_57 f_X8_addToken_68 f_X8_addToken_73
  rw [h10, if_neg (nI_pos (by omega)), if_neg (nI_geL (by show T < 901; omega) (by omega)), if_pos (gin_nI (by omega) (by omega)), nI_clamp (by omega), nI_1]
  unfold AT
  by_cases e : kd = 0
  · rw [if_pos e, if_pos (Or.inr rfl), if_pos (Or.inl e)]
  · rw [if_neg e]
    by_cases e2 : kd = (6 : Int32)
    · rw [if_pos e2, if_pos (Or.inr rfl), if_pos (Or.inr e2)]
    · rw [if_neg e2, if_pos (Or.inl rfl), if_neg (fun q => by rcases q with q | q; exact e q; exact e2 q)]
theorem x_word (h : TX u B n) (hB : BT B n) {s : Nat} : ∀ (j k n1 : Nat), n - k ≤ j → s ≤ k → k ≤ n → j < n1 → f_X8_scanWord_4 n1 (nI s) (nI k) (lN (nmC (nl B s (k - s)))) u = f_X8_scanWord_44 (nI s) (nI (ru isL B k)) (lN (nmC (nl B s (ru isL B k - s)))) u := by
  have hb := hB.1
  intro j
  induction j with
  | zero =>
    intro k n1 hj hs hk hn
    obtain ⟨n1, rfl⟩ := fu_pos hn
    have e : ru isL B k = k := ru_stop (by rw [hB.2.2 k (by omega)]; decide)
    rw [e]
    show b_X8_scanWord_4 _ _ _ _ u = _
    unfold b_X8_scanWord_4
    rw [h.1, if_pos (nI_le (by omega) (by omega))]
  | succ j ih =>
    intro k n1 hj hs hk hn
    obtain ⟨n1, rfl⟩ := fu_pos (show 0 < n1 by omega)
    show b_X8_scanWord_4 _ _ _ _ u = _
    unfold b_X8_scanWord_4
    rw [h.1]
    by_cases e : n ≤ k
    · have e2 : ru isL B k = k := ru_stop (by rw [hB.2.2 k e]; decide)
      rw [e2, if_pos (nI_le (by omega) (by omega))]
    · rw [if_neg (nI_ge (by omega) (by omega)), x_isL h hB (by omega), Option.bind_some, ite01]
      by_cases q : isL (B k) = true
      · have hq := isL_lt q
        rw [if_pos q, x_byte h hB (by omega), Option.bind_some, sg_small (by omega), show nI (B k) - (97 : Int32) = nI (B k - 97) from nI_sub (a := B k) (b := 97) (by omega), show nI (B k - 97) + (1 : Int32) = nI (B k - 97 + 1) from nq_addL _ _, nI_l (by omega), show lN (nmC (nl B s (k - s))) * (32 : Int64) = lN (nmC (nl B s (k - s)) * 32) from lN_mul _ 32, lN_add, nI_1]
        have e3 : nmC (nl B s (k - s)) * 32 + (B k - 97 + 1) = nmC (nl B s (k + 1 - s)) := by
          rw [show k + 1 - s = (k - s) + 1 by omega]
          show _ = nmC (nl B s (k - s)) * 32 + (B (s + (k - s)) - 96)
          rw [show s + (k - s) = k by omega, show B k - 97 + 1 = B k - 96 by omega]
        rw [e3, ru_go q (by omega)]
        exact ih (k + 1) n1 (by omega) (by omega) (by omega) (by omega)
      · rw [if_neg q, ru_stop q]
theorem x_numb (h : TX u B n) (hB : BT B n) {s : Nat} : ∀ (j k n1 : Nat), n - k ≤ j → s ≤ k → k ≤ n → j < n1 → f_X8_scanNumber_4 n1 (nI s) (nI k) (lN (nu B s (k - s))) u = f_X8_scanNumber_42 (nI s) (nI (ru isD B k)) (lN (nu B s (ru isD B k - s))) u := by
  have hb := hB.1
  intro j
  induction j with
  | zero =>
    intro k n1 hj hs hk hn
    obtain ⟨n1, rfl⟩ := fu_pos hn
    have e : ru isD B k = k := ru_stop (by rw [hB.2.2 k (by omega)]; decide)
    rw [e]
    show b_X8_scanNumber_4 _ _ _ _ u = _
    unfold b_X8_scanNumber_4
    rw [h.1, if_pos (nI_le (by omega) (by omega))]
  | succ j ih =>
    intro k n1 hj hs hk hn
    obtain ⟨n1, rfl⟩ := fu_pos (show 0 < n1 by omega)
    show b_X8_scanNumber_4 _ _ _ _ u = _
    unfold b_X8_scanNumber_4
    rw [h.1]
    by_cases e : n ≤ k
    · have e2 : ru isD B k = k := ru_stop (by rw [hB.2.2 k e]; decide)
      rw [e2, if_pos (nI_le (by omega) (by omega))]
    · rw [if_neg (nI_ge (by omega) (by omega)), x_isD h hB (by omega), Option.bind_some, ite01]
      by_cases q : isD (B k) = true
      · have hq := isD_lt q
        rw [if_pos q, x_byte h hB (by omega), Option.bind_some, sg_small (by omega), show nI (B k) - (48 : Int32) = nI (B k - 48) from nI_sub (a := B k) (b := 48) (by omega), nI_l (by omega), show lN (nu B s (k - s)) * (10 : Int64) = lN (nu B s (k - s) * 10) from lN_mul _ 10, lN_add, nI_1]
        have e3 : nu B s (k - s) * 10 + (B k - 48) = nu B s (k + 1 - s) := by
          rw [show k + 1 - s = (k - s) + 1 by omega]
          show _ = 10 * nu B s (k - s) + (B (s + (k - s)) - 48)
          rw [show s + (k - s) = k by omega, Nat.mul_comm]
        rw [e3, ru_go q (by omega)]
        exact ih (k + 1) n1 (by omega) (by omega) (by omega) (by omega)
      · rw [if_neg q, ru_stop q]
theorem tS_le (hB : BT B n) {p : Nat} (hp : p ≤ n) : tS B p ≤ n := ru_le hB (by decide) hp
theorem x_tok24 (h : TX u B n) (hB : BT B n) {p T : Nat} (hp : p ≤ n) (hT : T < 901) (h10 : u.1 0 10 = nI T) : ∃ q v, f_X8_scanToken_24 (nI (tS B p)) u = some (q, AT u T (tK B p) (tS B p) v) ∧ (tO B p → q = nI (tE B p) ∧ v = tV B p) := by
  have hb := hB.1
  have hs := tS_le hB hp
  have hF := FU_big
  unfold tO
  generalize hX : f_X8_scanToken_24 (nI (tS B p)) u = X
  unfold f_X8_scanToken_24 at hX
  by_cases e : tS B p < n
  · rw [h.1, if_pos (nI_lt e (by omega)), x_isL h hB e, Option.bind_some, ite01] at hX
    by_cases q : isL (B (tS B p)) = true
    · have hle : ru isL B (tS B p) ≤ n := ru_le hB (by decide) hs
      have hge : tS B p ≤ ru isL B (tS B p) := ru_ge _
      have hE : tE B p = ru isL B (tS B p) := if_pos q
      have h3 := x_word h hB (s := tS B p) (n - tS B p) (tS B p) FU (by omega) (by omega) hs (by omega)
      rw [Nat.sub_self] at h3
      unfold F_X8_scanWord at hX
      rw [if_pos q, show f_X8_scanWord_4 FU (nI (tS B p)) (nI (tS B p)) (0 : Int64) u = _ from h3] at hX
      unfold f_X8_scanWord_44 f_X8_scanWord_84 at hX
      rw [x_known h hB hle hge, Option.bind_some, nI_sub hge] at hX
      have hW : kfind wdC (lw B (tS B p) (ru isL B (tS B p) - tS B p)) 0 = tW B p := by unfold tW tL; rw [hE]
      have hLn : ru isL B (tS B p) - tS B p = tL B p := by unfold tL; rw [hE]
      rw [hW, hLn] at hX
      by_cases q2 : tW B p = (-1 : Int32)
      · rw [if_pos q2] at hX
        by_cases q3 : 8 < tL B p
        · have hk : tK B p = 5 := by unfold tK; rw [if_pos q, if_pos q2, if_pos q3]
          have hv : tV B p = lN (nmC (nl B (tS B p) (tL B p))) := by unfold tV; rw [if_pos q, if_pos q2]
          rw [if_pos (nI_gtL (by show 8 < tL B p; omega) (by omega)), x_add hT h10, Option.bind_some, Option.bind_some] at hX
          rw [hk, hv, ← hX, hE]
          exact ⟨_, _, rfl, fun _ => ⟨rfl, rfl⟩⟩
        · have hk : tK B p = 2 := by unfold tK; rw [if_pos q, if_pos q2, if_neg q3]
          have hv : tV B p = lN (nmC (nl B (tS B p) (tL B p))) := by unfold tV; rw [if_pos q, if_pos q2]
          rw [if_neg (nI_ngtL (by show tL B p ≤ 8; omega) (by omega)), x_add hT h10, Option.bind_some, Option.bind_some] at hX
          rw [hk, hv, ← hX, hE]
          exact ⟨_, _, rfl, fun _ => ⟨rfl, rfl⟩⟩
      · have hk : tK B p = 1 := by unfold tK; rw [if_pos q, if_neg q2]
        have hv : tV B p = (tW B p).toInt64 := by unfold tV; rw [if_pos q, if_neg q2]
        rw [if_neg q2, x_add hT h10, Option.bind_some, Option.bind_some] at hX
        rw [hk, hv, ← hX, hE]
        exact ⟨_, _, rfl, fun _ => ⟨rfl, rfl⟩⟩
    · rw [if_neg q, x_isD h hB e, Option.bind_some, ite01] at hX
      by_cases q4 : isD (B (tS B p)) = true
      · have hle : ru isD B (tS B p) ≤ n := ru_le hB (by decide) hs
        have hge : tS B p ≤ ru isD B (tS B p) := ru_ge _
        have hE : tE B p = ru isD B (tS B p) := by unfold tE; rw [if_neg q, if_pos q4]
        have h3 := x_numb h hB (s := tS B p) (n - tS B p) (tS B p) FU (by omega) (by omega) hs (by omega)
        rw [Nat.sub_self] at h3
        unfold F_X8_scanNumber at hX
        rw [if_pos q4, show f_X8_scanNumber_4 FU (nI (tS B p)) (nI (tS B p)) (0 : Int64) u = _ from h3] at hX
        unfold f_X8_scanNumber_42 f_X8_scanNumber_56 at hX
        have hLn : ru isD B (tS B p) - tS B p = tL B p := by unfold tL; rw [hE]
        rw [nI_sub hge, hLn] at hX
        by_cases q3 : 4 < tL B p
        · have hk : tK B p = 6 := by unfold tK; rw [if_neg q, if_pos q4, if_pos q3]
          rw [if_pos (nI_gtL (by show 4 < tL B p; omega) (by omega)), x_add hT h10, Option.bind_some, Option.bind_some] at hX
          rw [hk, ← hX]
          exact ⟨_, _, rfl, fun z => absurd rfl z.2⟩
        · have hk : tK B p = 3 := by unfold tK; rw [if_neg q, if_pos q4, if_neg q3]
          have hv : tV B p = lN (nu B (tS B p) (tL B p)) := by unfold tV; rw [if_neg q, if_pos q4]
          rw [if_neg (nI_ngtL (by show tL B p ≤ 4; omega) (by omega)), x_add hT h10, Option.bind_some, Option.bind_some] at hX
          rw [hk, hv, ← hX, hE]
          exact ⟨_, _, rfl, fun _ => ⟨rfl, rfl⟩⟩
      · rw [if_neg q4, x_isS h hB e, Option.bind_some, ite01] at hX
        unfold f_X8_scanToken_87 at hX
        by_cases q5 : isS (B (tS B p)) = true
        · have hE : tE B p = tS B p + 1 := by unfold tE; rw [if_neg q, if_neg q4, if_pos q5]
          have hk : tK B p = 4 := by unfold tK; rw [if_neg q, if_neg q4, if_pos q5]
          have hv : tV B p = lN (B (tS B p)) := by unfold tV; rw [if_neg q, if_neg q4, if_pos q5]
          have hc : B (tS B p) < 128 := by
            have := of_decide_eq_true (show decide (B (tS B p) = 59 ∨ B (tS B p) = 60 ∨ B (tS B p) = 62 ∨ B (tS B p) = 61) = true from q5)
            omega
          rw [if_pos q5, x_byte h hB e, Option.bind_some, sg_small hc, nI_l (by omega), x_add hT h10, Option.bind_some, nI_1] at hX
          rw [hk, hv, ← hX, hE]
          exact ⟨_, _, rfl, fun _ => ⟨rfl, rfl⟩⟩
        · have hc := hB.2.1 _ e
          have hk : tK B p = 6 := by unfold tK; rw [if_neg q, if_neg q4, if_neg q5, if_neg (by omega)]
          rw [if_neg q5, x_byte h hB e, Option.bind_some, x_add hT h10, Option.bind_some] at hX
          rw [hk, ← hX]
          exact ⟨_, _, rfl, fun z => absurd rfl z.2⟩
  · have h256 := hB.2.2 (tS B p) (by omega)
    have hk : tK B p = 0 := by unfold tK; rw [h256, if_neg (by decide), if_neg (by decide), if_neg (by decide), if_pos rfl]
    rw [h.1, if_neg (nI_nlt (by omega) (by omega)), show n = tS B p by omega, x_add hT h10, Option.bind_some] at hX
    rw [hk, ← hX]
    exact ⟨_, _, rfl, fun z => absurd rfl z.1⟩
end
