/-! Where a plan's blocks end. -/
section
variable {r : Nat → Int32}
theorem skN_lt : ∀ (i : Nat) {o : Nat}, o ∈ skN r i → o < i
  | 0, o, h => absurd h (List.not_mem_nil)
  | i + 1, o, h => by
    have h2 : o ∈ (if r i = (25 : Int32) then (skN r i).tail else if r i = (24 : Int32) ∨ r i = (2301 : Int32) ∨ r i = (2303 : Int32) ∨ r i = (2327 : Int32) then i :: skN r i else skN r i) := h
    by_cases e : r i = (25 : Int32)
    · rw [if_pos e] at h2
      have := skN_lt i (List.mem_of_mem_tail h2)
      omega
    · rw [if_neg e] at h2
      by_cases e2 : r i = (24 : Int32) ∨ r i = (2301 : Int32) ∨ r i = (2303 : Int32) ∨ r i = (2327 : Int32)
      · rw [if_pos e2] at h2
        rcases List.mem_cons.mp h2 with h3 | h3
        · omega
        · have := skN_lt i h3
          omega
      · rw [if_neg e2] at h2
        have := skN_lt i h2
        omega
theorem skN_end {i : Nat} (e : r i = (25 : Int32)) : skN r (i + 1) = (skN r i).tail := if_pos e
theorem skN_op {i : Nat} (e : isOp (r i)) : skN r (i + 1) = i :: skN r i := by
  have h : ¬ r i = (25 : Int32) := fun q => by
    rw [q] at e
    rcases e with e | e | e | e <;> exact absurd e (by decide)
  show (if r i = (25 : Int32) then (skN r i).tail else if r i = (24 : Int32) ∨ r i = (2301 : Int32) ∨ r i = (2303 : Int32) ∨ r i = (2327 : Int32) then i :: skN r i else skN r i) = _
  rw [if_neg h]
  exact if_pos e
theorem skN_pl {i : Nat} (e : ¬ r i = (25 : Int32)) (e2 : ¬ isOp (r i)) : skN r (i + 1) = skN r i := by
  show (if r i = (25 : Int32) then (skN r i).tail else if r i = (24 : Int32) ∨ r i = (2301 : Int32) ∨ r i = (2303 : Int32) ∨ r i = (2327 : Int32) then i :: skN r i else skN r i) = _
  rw [if_neg e]
  exact if_neg e2
theorem rkN_end {i : Nat} (e : r i = (25 : Int32)) : rkN r (i + 1) = rkN r i := if_pos e
theorem rkN_row {i : Nat} (e : ¬ r i = (25 : Int32)) : rkN r (i + 1) = rkN r i + 1 := if_neg e
theorem skN_top : ∀ (k i : Nat), i ≤ k → ∀ {o : Nat} {l : List Nat}, skN r i = o :: l → skN r o = l ∧ isOp (r o)
  | 0, i, hk, o, l, h => by rw [show i = 0 by omega] at h; exact absurd h (by show ¬ ([] : List Nat) = o :: l; exact fun q => by injection q)
  | k + 1, 0, _, o, l, h => absurd h (by show ¬ ([] : List Nat) = o :: l; exact fun q => by injection q)
  | k + 1, i + 1, hk, o, l, h => by
    by_cases e : r i = (25 : Int32)
    · rw [skN_end e] at h
      cases hs : skN r i with
      | nil => rw [hs] at h; exact absurd h (fun q => by injection q)
      | cons q t =>
        rw [hs] at h
        have h2 : t = o :: l := h
        have h3 := skN_top k i (by omega) hs
        have h4 := skN_lt i (o := q) (by rw [hs]; exact List.mem_cons_self)
        exact skN_top k q (by omega) (h3.1.trans h2)
    · by_cases e2 : isOp (r i)
      · rw [skN_op e2] at h
        injection h with h1 h3
        subst h1
        exact ⟨h3, e2⟩
      · rw [skN_pl e e2] at h
        exact skN_top k i (by omega) h
theorem skN_gone {o e : Nat} (h : o ∉ skN r e) (ho : o < e) : ∀ k, o ∉ skN r (e + k)
  | 0 => h
  | k + 1 => by
    have ih := skN_gone h ho k
    intro q
    have q2 : o ∈ skN r (e + k + 1) := q
    by_cases e1 : r (e + k) = (25 : Int32)
    · rw [skN_end e1] at q2
      exact ih (List.mem_of_mem_tail q2)
    · by_cases e2 : isOp (r (e + k))
      · rw [skN_op e2] at q2
        rcases List.mem_cons.mp q2 with h3 | h3
        · omega
        · exact ih h3
      · rw [skN_pl e1 e2] at q2
        exact ih q2
/-- a block is over where its end is -/
theorem skN_in {o e i : Nat} {l : List Nat} (he : skN r e = o :: l) (h25 : r e = (25 : Int32)) (h : o ∈ skN r i) : i ≤ e := by
  have h1 := skN_top e e (Nat.le_refl e) he
  have h2 : o < e := skN_lt e (by rw [he]; exact List.mem_cons_self)
  rcases Nat.lt_or_ge e i with h3 | h3
  · have h4 : o ∉ skN r (e + 1) := by
      rw [skN_end h25, he]
      intro q
      have q2 : o ∈ l := q
      rw [← h1.1] at q2
      have := skN_lt o q2
      omega
    have h5 := skN_gone h4 (by omega) (i - (e + 1))
    rw [show e + 1 + (i - (e + 1)) = i by omega] at h5
    exact absurd h h5
  · exact h3
/-- the rounds that are open: the class's, and the reference's -/
def StN (r b1 b2 c16 : Nat → Int32) : List Nat → Nat → Prop
  | [], d => d = 0
  | o :: l, d => if r o = (24 : Int32) then ∃ y, y ≤ 98 ∧ c16 o = nI y ∧ (if r (o + 1) = (25 : Int32) then StN r b1 b2 c16 l d else ∃ d', d = d' + 1 ∧ b1 d' = nI (rkN r o) ∧ b2 d' = nI y ∧ StN r b1 b2 c16 l d') else StN r b1 b2 c16 l d
variable {b1 b2 c16 b1' b2' c16' : Nat → Int32}
theorem StN_len : ∀ (l : List Nat) {d : Nat}, StN r b1 b2 c16 l d → d ≤ l.length
  | [], d, h => by rw [show d = 0 from h]; exact Nat.zero_le _
  | o :: l, d, h => by
    have h2 : if r o = (24 : Int32) then ∃ y, y ≤ 98 ∧ c16 o = nI y ∧ (if r (o + 1) = (25 : Int32) then StN r b1 b2 c16 l d else ∃ d', d = d' + 1 ∧ b1 d' = nI (rkN r o) ∧ b2 d' = nI y ∧ StN r b1 b2 c16 l d') else StN r b1 b2 c16 l d := h
    show d ≤ l.length + 1
    by_cases e : r o = (24 : Int32)
    · rw [if_pos e] at h2
      obtain ⟨y, h3, h4, h5⟩ := h2
      by_cases e2 : r (o + 1) = (25 : Int32)
      · rw [if_pos e2] at h5
        have := StN_len l h5
        omega
      · rw [if_neg e2] at h5
        obtain ⟨d', h6, h7, h8, h9⟩ := h5
        have := StN_len l h9
        omega
    · rw [if_neg e] at h2
      have := StN_len l h2
      omega
theorem StN_congr : ∀ (l : List Nat) {d : Nat}, StN r b1 b2 c16 l d → (∀ o, o ∈ l → c16' o = c16 o) → (∀ k, k < d → b1' k = b1 k ∧ b2' k = b2 k) → StN r b1' b2' c16' l d
  | [], d, h, _, _ => h
  | o :: l, d, h, hc, hb => by
    have h2 : if r o = (24 : Int32) then ∃ y, y ≤ 98 ∧ c16 o = nI y ∧ (if r (o + 1) = (25 : Int32) then StN r b1 b2 c16 l d else ∃ d', d = d' + 1 ∧ b1 d' = nI (rkN r o) ∧ b2 d' = nI y ∧ StN r b1 b2 c16 l d') else StN r b1 b2 c16 l d := h
    show if r o = (24 : Int32) then ∃ y, y ≤ 98 ∧ c16' o = nI y ∧ (if r (o + 1) = (25 : Int32) then StN r b1' b2' c16' l d else ∃ d', d = d' + 1 ∧ b1' d' = nI (rkN r o) ∧ b2' d' = nI y ∧ StN r b1' b2' c16' l d') else StN r b1' b2' c16' l d
    have hl : ∀ o, o ∈ l → c16' o = c16 o := fun q hq => hc q (List.mem_cons_of_mem _ hq)
    by_cases e : r o = (24 : Int32)
    · rw [if_pos e] at h2 ⊢
      obtain ⟨y, h3, h4, h5⟩ := h2
      refine ⟨y, h3, (hc o List.mem_cons_self).trans h4, ?_⟩
      by_cases e2 : r (o + 1) = (25 : Int32)
      · rw [if_pos e2] at h5 ⊢
        exact StN_congr l h5 hl hb
      · rw [if_neg e2] at h5 ⊢
        obtain ⟨d', h6, h7, h8, h9⟩ := h5
        exact ⟨d', h6, (hb d' (by omega)).1.trans h7, (hb d' (by omega)).2.trans h8, StN_congr l h9 hl (fun k hk => hb k (by omega))⟩
    · rw [if_neg e] at h2 ⊢
      exact StN_congr l h2 hl hb
theorem StN_top : ∀ (l : List Nat) {d : Nat}, StN r b1 b2 c16 l (d + 1) → ∃ o, o ∈ l ∧ r o = (24 : Int32) ∧ b1 d = nI (rkN r o)
  | [], d, h => absurd (show d + 1 = 0 from h) (by omega)
  | o :: l, d, h => by
    have h2 : if r o = (24 : Int32) then ∃ y, y ≤ 98 ∧ c16 o = nI y ∧ (if r (o + 1) = (25 : Int32) then StN r b1 b2 c16 l (d + 1) else ∃ d', d + 1 = d' + 1 ∧ b1 d' = nI (rkN r o) ∧ b2 d' = nI y ∧ StN r b1 b2 c16 l d') else StN r b1 b2 c16 l (d + 1) := h
    by_cases e : r o = (24 : Int32)
    · rw [if_pos e] at h2
      obtain ⟨y, h3, h4, h5⟩ := h2
      by_cases e2 : r (o + 1) = (25 : Int32)
      · rw [if_pos e2] at h5
        obtain ⟨q, q1, q2⟩ := StN_top l h5
        exact ⟨q, List.mem_cons_of_mem _ q1, q2⟩
      · rw [if_neg e2] at h5
        obtain ⟨d', h6, h7, h8, h9⟩ := h5
        rw [show d' = d by omega] at h7
        exact ⟨o, List.mem_cons_self, e, h7⟩
    · rw [if_neg e] at h2
      obtain ⟨q, q1, q2⟩ := StN_top l h2
      exact ⟨q, List.mem_cons_of_mem _ q1, q2⟩
end
