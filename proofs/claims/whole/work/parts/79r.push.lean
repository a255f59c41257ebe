/-! One row more in a plan. -/
def StR (f g : Nat → Int32) (rk : Nat → Nat) : List Nat → Prop
  | [] => True
  | o :: l => f l.length = nI o ∧ g l.length = nI (rk o) ∧ StR f g rk l
theorem StR.congr {f g f' g' : Nat → Int32} {rk rk' : Nat → Nat} : ∀ l : List Nat, (∀ d, d < l.length → f' d = f d ∧ g' d = g d) → (∀ o ∈ l, rk' o = rk o) → StR f g rk l → StR f' g' rk' l
  | [], _, _, _ => trivial
  | o :: l, h1, h2, h => by
    have hd := h1 l.length (by show l.length < l.length + 1; omega)
    refine ⟨hd.1.trans h.1, ?_, StR.congr l (fun d hd => h1 d (by show d < l.length + 1; omega)) (fun o ho => h2 o (List.mem_cons_of_mem _ ho)) h.2.2⟩
    rw [h2 o List.mem_cons_self]
    exact hd.2.trans h.2.1
theorem skN_mem {r : Nat → Int32} : ∀ (M o : Nat), o ∈ skN r M → o < M ∧ isOp (r o)
  | 0, o, h => absurd h List.not_mem_nil
  | M + 1, o, h => by
    have h2 : o ∈ (if r M = (25 : Int32) then (skN r M).tail else if r M = (24 : Int32) ∨ r M = (2301 : Int32) ∨ r M = (2303 : Int32) ∨ r M = (2327 : Int32) then M :: skN r M else skN r M) := h
    by_cases e : r M = (25 : Int32)
    · rw [if_pos e] at h2
      have := skN_mem M o (List.mem_of_mem_tail h2)
      exact ⟨by omega, this.2⟩
    · rw [if_neg e] at h2
      by_cases e2 : r M = (24 : Int32) ∨ r M = (2301 : Int32) ∨ r M = (2303 : Int32) ∨ r M = (2327 : Int32)
      · rw [if_pos e2] at h2
        rcases List.mem_cons.mp h2 with z | z
        · rw [z]; exact ⟨by omega, e2⟩
        · have := skN_mem M o z
          exact ⟨by omega, this.2⟩
      · rw [if_neg e2] at h2
        have := skN_mem M o h2
        exact ⟨by omega, this.2⟩
theorem op_25n {x : Int32} (h : isOp x) : x ≠ (25 : Int32) := by
  rcases h with h | h | h | h <;> rw [h] <;> decide
theorem rkN_lt {r : Nat → Int32} {j M : Nat} (h : j < M) (h25 : r j ≠ (25 : Int32)) : rkN r j < rkN r M := by
  have h1 : rkN r (j + 1) = rkN r j + 1 := if_neg h25
  have h2 := rkN_mono r (i := j + 1) (j := M) (by omega)
  omega
section
variable {p p' : GW} {a a' : Nat → Int32} {nk nc M s : Nat}
theorem Prow.congr2 {j : Nat} (h : Prow p a nk nc j s) (h1 : ∀ i, 1 ≤ i → i ≤ 6 → p'.1 i s = p.1 i s) (h20 : a' (86 + 6 * j) = a (86 + 6 * j)) (h21 : a' (86 + 6 * j + 1) = a (86 + 6 * j + 1)) (h22 : a' (86 + 6 * j + 2) = a (86 + 6 * j + 2)) (h25 : a' (86 + 6 * j + 5) = a (86 + 6 * j + 5)) : Prow p' a' nk nc j s := by
  unfold Prow at h ⊢
  rw [h1 1 (by omega) (by omega), h1 2 (by omega) (by omega), h1 3 (by omega) (by omega), h1 4 (by omega) (by omega), h1 5 (by omega) (by omega), h1 6 (by omega) (by omega), h20, h21, h22, h25]
  exact h
theorem Pr.push (h : Pr p a nk nc M) (hs : s = rkN (rK a) M) (hs3 : s < 30) (hp : ∀ i k, 1 ≤ i → i ≤ 7 → k < 30 → k ≠ s → p'.1 i k = p.1 i k) (ha : ∀ k, 86 ≤ k → k < 86 + 6 * M → a' k = a k) (hop : a' (86 + 6 * M) ≠ (25 : Int32)) (hL : isOp (a' (86 + 6 * M)) → (skN (rK a) M).length < 3) (hrow : Prow p' a' nk nc M s) :
    Pr p' a' nk nc (M + 1) ∧ rkN (rK a') (M + 1) = s + 1 ∧ (isOp (a' (86 + 6 * M)) → skN (rK a') (M + 1) = M :: skN (rK a) M) ∧ (¬ isOp (a' (86 + 6 * M)) → skN (rK a') (M + 1) = skN (rK a) M) ∧ ∀ j, j ≤ M → rkN (rK a') j = rkN (rK a) j := by
  have hr : ∀ j, j < M → rK a' j = rK a j := fun j hj => ha _ (by omega) (by omega)
  have er : ∀ j, j ≤ M → rkN (rK a') j = rkN (rK a) j := fun j hj => rkN_congr j (fun i hi => hr i (by omega))
  have es : ∀ j, j ≤ M → skN (rK a') j = skN (rK a) j := fun j hj => skN_congr j (fun i hi => hr i (by omega))
  have e1 : rkN (rK a') (M + 1) = s + 1 := by
    show (if a' (86 + 6 * M) = (25 : Int32) then rkN (rK a') M else rkN (rK a') M + 1) = s + 1
    rw [if_neg hop, er M (Nat.le_refl M), hs]
  have e2 : isOp (a' (86 + 6 * M)) → skN (rK a') (M + 1) = M :: skN (rK a) M := by
    intro ho
    show (if a' (86 + 6 * M) = (25 : Int32) then (skN (rK a') M).tail else if a' (86 + 6 * M) = (24 : Int32) ∨ a' (86 + 6 * M) = (2301 : Int32) ∨ a' (86 + 6 * M) = (2303 : Int32) ∨ a' (86 + 6 * M) = (2327 : Int32) then M :: skN (rK a') M else skN (rK a') M) = _
    unfold isOp at ho
    rw [if_neg hop, if_pos ho, es M (Nat.le_refl M)]
  have e3 : ¬ isOp (a' (86 + 6 * M)) → skN (rK a') (M + 1) = skN (rK a) M := by
    intro ho
    show (if a' (86 + 6 * M) = (25 : Int32) then (skN (rK a') M).tail else if a' (86 + 6 * M) = (24 : Int32) ∨ a' (86 + 6 * M) = (2301 : Int32) ∨ a' (86 + 6 * M) = (2303 : Int32) ∨ a' (86 + 6 * M) = (2327 : Int32) then M :: skN (rK a') M else skN (rK a') M) = _
    unfold isOp at ho
    rw [if_neg hop, if_neg ho, es M (Nat.le_refl M)]
  obtain ⟨q1, q2, q3, q4, q5, q6⟩ := h
  have hlt : ∀ j, j < M → a (86 + 6 * j) ≠ (25 : Int32) → rkN (rK a) j < s := fun j hj h25 => by rw [hs]; exact rkN_lt hj h25
  refine ⟨⟨?_, ?_, fun j hj => ?_, fun j hj e => ?_, fun j hj e => ?_, fun j hj e => ?_⟩, e1, e2, e3, er⟩
  · rw [e1]; omega
  · rw [e1]
    by_cases ho : isOp (a' (86 + 6 * M))
    · rw [e2 ho]
      show M + 1 + ((skN (rK a) M).length + 1) ≤ _
      omega
    · rw [e3 ho]; omega
  · by_cases z : j = M + 1
    · subst z
      by_cases ho : isOp (a' (86 + 6 * M))
      · rw [e2 ho]
        have := hL ho
        show (skN (rK a) M).length + 1 ≤ 3
        omega
      · rw [e3 ho]; exact q3 M (Nat.le_refl M)
    · rw [es j (by omega)]; exact q3 j (by omega)
  · by_cases z : j = M
    · subst z; exact absurd e hop
    · rw [ha _ (by omega) (by omega)] at e
      obtain ⟨o, l, h3, h4⟩ := q4 j (by omega) e
      exact ⟨o, l, (es j (by omega)).trans h3, (ha _ (by omega) (by omega)).trans h4⟩
  · by_cases z : j = M
    · subst z
      rw [er j (Nat.le_refl j), ← hs]
      exact hrow
    · rw [ha _ (by omega) (by omega)] at e
      rw [er j (by omega)]
      have h3 := hlt j (by omega) e
      exact (q5 j (by omega) e).congr (Nat.le_refl _) (fun i h4 h5 => hp i _ h4 (by omega) (by omega) (by omega)) (fun i hi => ha _ (by omega) (by omega))
  · by_cases z : j = M
    · subst z
      left
      rw [e2 e]
      exact List.mem_cons_self
    · rw [ha _ (by omega) (by omega)] at e
      have h3 := hlt j (by omega) (op_25n e)
      rcases q6 j (by omega) e with h4 | ⟨e4, l, h5, h6, h7, h8, h9, h10⟩
      · left
        by_cases ho : isOp (a' (86 + 6 * M))
        · rw [e2 ho]; exact List.mem_cons_of_mem _ h4
        · rw [e3 ho]; exact h4
      · refine Or.inr ⟨e4, l, h5, by omega, (ha _ (by omega) (by omega)).trans h7, (es e4 (by omega)).trans h8, (ha _ (by omega) (by omega)).trans h9, ?_⟩
        rw [er j (by omega), er e4 (by omega), hp 7 _ (by omega) (by omega) (by omega) (by omega)]
        exact h10
theorem Pr.pop (h : Pr p a nk nc M) {o : Nat} {l : List Nat} (ho : skN (rK a) M = o :: l) (hs : s = rkN (rK a) M) (hp : ∀ i k, 1 ≤ i → i ≤ 7 → k < 30 → ¬ (i = 7 ∧ k = rkN (rK a) o) → p'.1 i k = p.1 i k) (hp7 : p'.1 7 (rkN (rK a) o) = nI s) (ha : ∀ k, 86 ≤ k → k < 86 + 6 * M → k ≠ 86 + 6 * o + 4 → a' k = a k) (hao : a' (86 + 6 * o + 4) = nI M) (h25 : a' (86 + 6 * M) = (25 : Int32)) (h4M : a' (86 + 6 * M + 4) = nI o) :
    Pr p' a' nk nc (M + 1) ∧ rkN (rK a') (M + 1) = s ∧ skN (rK a') (M + 1) = l ∧ ∀ j, j ≤ M → rkN (rK a') j = rkN (rK a) j := by
  have hmem := skN_mem M o (by rw [ho]; exact List.mem_cons_self)
  have hr : ∀ j, j < M → rK a' j = rK a j := fun j hj => ha _ (by omega) (by omega) (by omega)
  have er : ∀ j, j ≤ M → rkN (rK a') j = rkN (rK a) j := fun j hj => rkN_congr j (fun i hi => hr i (by omega))
  have es : ∀ j, j ≤ M → skN (rK a') j = skN (rK a) j := fun j hj => skN_congr j (fun i hi => hr i (by omega))
  have e1 : rkN (rK a') (M + 1) = s := by
    show (if a' (86 + 6 * M) = (25 : Int32) then rkN (rK a') M else rkN (rK a') M + 1) = s
    rw [if_pos h25, er M (Nat.le_refl M), hs]
  have e2 : skN (rK a') (M + 1) = l := by
    show (if a' (86 + 6 * M) = (25 : Int32) then (skN (rK a') M).tail else if a' (86 + 6 * M) = (24 : Int32) ∨ a' (86 + 6 * M) = (2301 : Int32) ∨ a' (86 + 6 * M) = (2303 : Int32) ∨ a' (86 + 6 * M) = (2327 : Int32) then M :: skN (rK a') M else skN (rK a') M) = _
    rw [if_pos h25, es M (Nat.le_refl M), ho]
    rfl
  obtain ⟨q1, q2, q3, q4, q5, q6⟩ := h
  have hlen : (skN (rK a) M).length = l.length + 1 := by rw [ho]; rfl
  have hro : rkN (rK a) o < s := by rw [hs]; exact rkN_lt hmem.1 (op_25n hmem.2)
  have hlt : ∀ j, j < M → a (86 + 6 * j) ≠ (25 : Int32) → rkN (rK a) j < s := fun j hj h25 => by rw [hs]; exact rkN_lt hj h25
  have hne : ∀ j, j < M → j ≠ o → a (86 + 6 * j) ≠ (25 : Int32) → rkN (rK a) j ≠ rkN (rK a) o := by
    intro j hj hjo h25
    rcases Nat.lt_or_ge j o with z | z
    · have := rkN_lt (r := rK a) z h25
      omega
    · have := rkN_lt (r := rK a) (j := o) (M := j) (by omega) (op_25n hmem.2)
      omega
  have new : ∃ e l', o < e ∧ e < M + 1 ∧ a' (86 + 6 * e) = (25 : Int32) ∧ skN (rK a') e = o :: l' ∧ a' (86 + 6 * o + 4) = nI e ∧ p'.1 7 (rkN (rK a') o) = nI (rkN (rK a') e) :=
    ⟨M, l, hmem.1, by omega, h25, (es M (Nat.le_refl M)).trans ho, hao, by rw [er o (by omega), er M (Nat.le_refl M), ← hs]; exact hp7⟩
  refine ⟨⟨?_, ?_, fun j hj => ?_, fun j hj e => ?_, fun j hj e => ?_, fun j hj e => ?_⟩, e1, e2, er⟩
  · rw [e1]; omega
  · rw [e1, e2]; omega
  · by_cases z : j = M + 1
    · subst z
      rw [e2]
      have := q3 M (Nat.le_refl M)
      omega
    · rw [es j (by omega)]; exact q3 j (by omega)
  · by_cases z : j = M
    · subst z; exact ⟨o, l, (es j (Nat.le_refl j)).trans ho, h4M⟩
    · have hjo : j ≠ o := fun z2 => by
        subst z2
        rw [ha _ (by omega) (by omega) (by omega)] at e
        exact op_25n hmem.2 e
      rw [ha _ (by omega) (by omega) (by omega)] at e
      obtain ⟨o', l', h3, h4⟩ := q4 j (by omega) e
      exact ⟨o', l', (es j (by omega)).trans h3, (ha _ (by omega) (by omega) (by omega)).trans h4⟩
  · by_cases z : j = M
    · subst z; exact absurd h25 e
    · rw [ha _ (by omega) (by omega) (by omega)] at e
      rw [er j (by omega)]
      have h3 := hlt j (by omega) e
      exact (q5 j (by omega) e).congr2 (fun i h4 h5 => hp i _ h4 (by omega) (by omega) (by omega)) (ha _ (by omega) (by omega) (by omega)) (ha _ (by omega) (by omega) (by omega)) (ha _ (by omega) (by omega) (by omega)) (ha _ (by omega) (by omega) (by omega))
  · by_cases z : j = M
    · subst z
      rw [h25] at e
      exact absurd rfl (op_25n e)
    · by_cases hjo : j = o
      · subst hjo; exact Or.inr new
      · rw [ha _ (by omega) (by omega) (by omega)] at e
        have h3 := hlt j (by omega) (op_25n e)
        rcases q6 j (by omega) e with h4 | ⟨e4, l', h5, h6, h7, h8, h9, h10⟩
        · left
          rw [ho] at h4
          rw [e2]
          rcases List.mem_cons.mp h4 with z2 | z2
          · exact absurd z2 hjo
          · exact z2
        · refine Or.inr ⟨e4, l', h5, by omega, (ha _ (by omega) (by omega) (by omega)).trans h7, (es e4 (by omega)).trans h8, (ha _ (by omega) (by omega) (by omega)).trans h9, ?_⟩
          have h11 := hne j (by omega) hjo (op_25n e)
          rw [er j (by omega), er e4 (by omega), hp 7 _ (by omega) (by omega) (by omega) (by omega)]
          exact h10
end
