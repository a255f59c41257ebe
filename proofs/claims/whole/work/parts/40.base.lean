/-! The pure part: numbers and loops. -/
theorem nq_le {a b : Nat} (ha : a < 2147483648) (hb : b < 2147483648) : (nI a ≤ nI b) = (a ≤ b) := propext (nI_leI ha hb)
theorem nq_lt {a b : Nat} (ha : a < 2147483648) (hb : b < 2147483648) : (nI a < nI b) = (a < b) := propext (nI_ltI ha hb)
theorem nq_eq {a b : Nat} (ha : a < 2147483648) (hb : b < 2147483648) : (nI a = nI b) = (a = b) := propext (nI_eq ha hb)
theorem nq_leL {a m : Nat} (ha : a < 2147483648) (hm : (OfNat.ofNat m : Nat) < 2147483648) : (nI a ≤ (OfNat.ofNat m : Int32)) = (a ≤ (OfNat.ofNat m : Nat)) := propext (nI_leI ha hm)
theorem nq_Lle {a m : Nat} (ha : a < 2147483648) (hm : (OfNat.ofNat m : Nat) < 2147483648) : ((OfNat.ofNat m : Int32) ≤ nI a) = ((OfNat.ofNat m : Nat) ≤ a) := propext (nI_leI hm ha)
theorem nq_ltL {a m : Nat} (ha : a < 2147483648) (hm : (OfNat.ofNat m : Nat) < 2147483648) : (nI a < (OfNat.ofNat m : Int32)) = (a < (OfNat.ofNat m : Nat)) := propext (nI_ltI ha hm)
theorem nq_Llt {a m : Nat} (ha : a < 2147483648) (hm : (OfNat.ofNat m : Nat) < 2147483648) : ((OfNat.ofNat m : Int32) < nI a) = ((OfNat.ofNat m : Nat) < a) := propext (nI_ltI hm ha)
theorem nq_eqL {a m : Nat} (ha : a < 2147483648) (hm : (OfNat.ofNat m : Nat) < 2147483648) : (nI a = (OfNat.ofNat m : Int32)) = (a = (OfNat.ofNat m : Nat)) := propext (nI_eq ha hm)
theorem nq_Leq {a m : Nat} (ha : a < 2147483648) (hm : (OfNat.ofNat m : Nat) < 2147483648) : ((OfNat.ofNat m : Int32) = nI a) = ((OfNat.ofNat m : Nat) = a) := propext (nI_eq hm ha)
theorem nI_nm {a : Nat} (ha : a < 2147483648) : ¬ nI a = (-1 : Int32) := fun h => by
  have h2 := congrArg Int32.toInt h
  rw [nI_toInt ha] at h2
  have h3 : (-1 : Int32).toInt = -1 := by decide
  omega
theorem nq_em {a : Nat} (ha : a < 2147483648) : (nI a = (-1 : Int32)) = False := eq_false (nI_nm ha)
theorem nq_me {a : Nat} (ha : a < 2147483648) : ((-1 : Int32) = nI a) = False := eq_false (fun h => nI_nm ha h.symm)
theorem nq_cl {a : Nat} (ha : a < 2147483648) : (nI a).toNatClampNeg = a := nI_clamp ha
theorem nq_clL {m : Nat} (hm : (OfNat.ofNat m : Nat) < 2147483648) : (OfNat.ofNat m : Int32).toNatClampNeg = (OfNat.ofNat m : Nat) := nI_clamp hm
theorem nq_add (a b : Nat) : nI a + nI b = nI (a + b) := nI_add a b
theorem nq_addL (a m : Nat) : nI a + (OfNat.ofNat m : Int32) = nI (a + (OfNat.ofNat m : Nat)) := nI_add a m
theorem nq_Ladd (a m : Nat) : (OfNat.ofNat m : Int32) + nI a = nI ((OfNat.ofNat m : Nat) + a) := nI_add m a
theorem nI_mul (a b : Nat) : nI a * nI b = nI (a * b) := (Int32.ofNat_mul a b).symm
theorem nq_Lmul (a m : Nat) : (OfNat.ofNat m : Int32) * nI a = nI ((OfNat.ofNat m : Nat) * a) := nI_mul m a
theorem nq_mulL (a m : Nat) : nI a * (OfNat.ofNat m : Int32) = nI (a * (OfNat.ofNat m : Nat)) := nI_mul a m
theorem nI_sub {a b : Nat} (h : b ≤ a) : nI a - nI b = nI (a - b) := pk_sub h
theorem nq_sub {a b : Nat} (h : b ≤ a) : nI a - nI b = nI (a - b) := nI_sub h
theorem nq_subL {a m : Nat} (h : (OfNat.ofNat m : Nat) ≤ a) : nI a - (OfNat.ofNat m : Int32) = nI (a - (OfNat.ofNat m : Nat)) := nI_sub h
theorem FU_big : 100000000 < FU := by unfold FU; omega
theorem fu_pos {n k : Nat} (h : k < n) : ∃ m, n = m + 1 := ⟨n - 1, by omega⟩
/-- g over i, i + 1 .. (n of them) -/
def fo {α : Type} (g : Nat → α → α) : Nat → Nat → α → α
  | _, 0, s => s
  | i, n + 1, s => fo g (i + 1) n (g i s)
/-- the first of i, i + 1 .. (n of them) with p; -1 if there is none -/
def fi (p : Nat → Prop) [DecidablePred p] : Nat → Nat → Int32
  | _, 0 => -1
  | i, n + 1 => if p i then nI i else fi p (i + 1) n
theorem fi_cases (p : Nat → Prop) [DecidablePred p] : ∀ n i, i + n < 2147483648 → (fi p i n = -1 ∧ ∀ k, i ≤ k → k < i + n → ¬ p k) ∨ (∃ k, i ≤ k ∧ k < i + n ∧ fi p i n = nI k ∧ p k ∧ ∀ j, i ≤ j → j < k → ¬ p j) := by
  intro n
  induction n with
  | zero => intro i _; exact Or.inl ⟨rfl, fun k h1 h2 => absurd h2 (by omega)⟩
  | succ n ih =>
    intro i hi
    by_cases h : p i
    · refine Or.inr ⟨i, Nat.le_refl i, by omega, ?_, h, fun j h1 h2 => absurd h2 (by omega)⟩
      show (if p i then nI i else fi p (i + 1) n) = nI i
      rw [if_pos h]
    · have e : fi p i (n + 1) = fi p (i + 1) n := by
        show (if p i then nI i else fi p (i + 1) n) = _
        rw [if_neg h]
      rcases ih (i + 1) (by omega) with ⟨h1, h2⟩ | ⟨k, h1, h2, h3, h4, h5⟩
      · refine Or.inl ⟨e.trans h1, fun k hk1 hk2 => ?_⟩
        by_cases hk : k = i
        · rw [hk]; exact h
        · exact h2 k (by omega) (by omega)
      · refine Or.inr ⟨k, by omega, by omega, e.trans h3, h4, fun j hj1 hj2 => ?_⟩
        by_cases hj : j = i
        · rw [hj]; exact h
        · exact h5 j (by omega) hj2
theorem fi_congr {p q : Nat → Prop} [DecidablePred p] [DecidablePred q] : ∀ n i, (∀ k, i ≤ k → k < i + n → (p k ↔ q k)) → fi p i n = fi q i n := by
  intro n
  induction n with
  | zero => intro i _; rfl
  | succ n ih =>
    intro i h
    show (if p i then nI i else fi p (i + 1) n) = (if q i then nI i else fi q (i + 1) n)
    rw [ih (i + 1) (fun k h1 h2 => h k (by omega) (by omega))]
    by_cases hp : p i
    · rw [if_pos hp, if_pos ((h i (Nat.le_refl i) (by omega)).mp hp)]
    · rw [if_neg hp, if_neg (fun hq => hp ((h i (Nat.le_refl i) (by omega)).mpr hq))]
theorem fo_congr {α : Type} {g h : Nat → α → α} : ∀ n i s, (∀ k, i ≤ k → k < i + n → g k = h k) → fo g i n s = fo h i n s := by
  intro n
  induction n with
  | zero => intro i s _; rfl
  | succ n ih =>
    intro i s e
    show fo g (i + 1) n (g i s) = fo h (i + 1) n (h i s)
    rw [e i (Nat.le_refl i) (by omega)]
    exact ih (i + 1) _ (fun k h1 h2 => e k (by omega) (by omega))
theorem fo_ind {α : Type} (g : Nat → α → α) (P : Nat → α → Prop) : ∀ n i s, P i s → (∀ k t, i ≤ k → k < i + n → P k t → P (k + 1) (g k t)) → P (i + n) (fo g i n s) := by
  intro n
  induction n with
  | zero => intro i s h _; exact h
  | succ n ih =>
    intro i s h hs
    have h2 := ih (i + 1) (g i s) (hs i s (Nat.le_refl i) (by omega) h) (fun k t h1 h2 h3 => hs k t (by omega) (by omega) h3)
    rw [show i + (n + 1) = i + 1 + n by omega]
    exact h2
theorem imin_99 (x : Int32) : imin (99 : Int32) x = if (99 : Int32) ≤ x then (99 : Int32) else x := by
  unfold imin
  by_cases h : x < (99 : Int32)
  · rw [if_pos h, if_neg (Int32.not_le.mpr h)]
  · rw [if_neg h, if_pos (Int32.not_lt.mp h)]
theorem imin_nI {a b : Nat} (ha : a < 2147483648) (hb : b < 2147483648) : imin (nI a) (nI b) = nI (min a b) := by
  unfold imin
  by_cases h : b < a
  · rw [if_pos (nI_lt h ha), Nat.min_eq_right (by omega)]
  · rw [if_neg (nI_nlt (Nat.le_of_not_lt h) hb), Nat.min_eq_left (by omega)]
theorem imax_nI {a b : Nat} (ha : a < 2147483648) (hb : b < 2147483648) : imax (nI a) (nI b) = nI (max a b) := by
  unfold imax
  by_cases h : a < b
  · rw [if_pos (nI_lt h hb), Nat.max_eq_right (by omega)]
  · rw [if_neg (nI_nlt (Nat.le_of_not_lt h) ha), Nat.max_eq_left (by omega)]
theorem gin_of {x : Int32} {n : Nat} (h : gin x n) (hn : n < 2147483648) : ∃ j : Nat, j < n ∧ x = nI j := vp_in_of h hn
theorem gin_nI {j n : Nat} (h : j < n) (hn : n < 2147483648) : gin (nI j) n := nI_in h hn
/-- is x one of 0 .. n - 1: as every 'has' asks it -/
theorem has_iff (x : Int32) (n : Nat) (hn : n < 2147483648) : (if x < 0 then (some (0 : Int32)) else (if nI n ≤ x then (some (0 : Int32)) else (some (1 : Int32)))) = some (if gin x n then 1 else 0) := by
  by_cases h0 : x < 0
  · rw [if_pos h0, if_neg (fun h => h (Or.inl h0))]
  · rw [if_neg h0]
    obtain ⟨j, hj, rfl⟩ := nI_of h0
    by_cases h : n ≤ j
    · rw [if_pos (nI_le h hj), if_neg (fun h2 => h2 (Or.inr (by rw [nI_clamp hj]; exact h)))]
    · rw [if_neg (nI_ge (Nat.lt_of_not_le h) hn), if_pos (gin_nI (Nat.lt_of_not_le h) hn)]
theorem nI_geL {i m : Nat} (h : i < (OfNat.ofNat m : Nat)) (hm : (OfNat.ofNat m : Nat) < 2147483648) : ¬ (OfNat.ofNat m : Int32) ≤ nI i := nI_ge h hm
theorem nI_leL {i m : Nat} (h : (OfNat.ofNat m : Nat) ≤ i) (hi : i < 2147483648) : (OfNat.ofNat m : Int32) ≤ nI i := nI_le h hi
theorem nI_ltL {i m : Nat} (h : i < (OfNat.ofNat m : Nat)) (hm : (OfNat.ofNat m : Nat) < 2147483648) : nI i < (OfNat.ofNat m : Int32) := nI_lt h hm
theorem nI_nltL {i m : Nat} (h : (OfNat.ofNat m : Nat) ≤ i) (hi : i < 2147483648) : ¬ nI i < (OfNat.ofNat m : Int32) := nI_nlt h hi
theorem nI_gtL {i m : Nat} (h : (OfNat.ofNat m : Nat) < i) (hi : i < 2147483648) : (OfNat.ofNat m : Int32) < nI i := nI_lt h hi
theorem nI_ngtL {i m : Nat} (h : i ≤ (OfNat.ofNat m : Nat)) (hm : (OfNat.ofNat m : Nat) < 2147483648) : ¬ (OfNat.ofNat m : Int32) < nI i := nI_nlt h hm
theorem nI_leR {i m : Nat} (h : i ≤ (OfNat.ofNat m : Nat)) (hm : (OfNat.ofNat m : Nat) < 2147483648) : nI i ≤ (OfNat.ofNat m : Int32) := nI_le h hm
theorem nI_nleR {i m : Nat} (h : (OfNat.ofNat m : Nat) < i) (hi : i < 2147483648) : ¬ nI i ≤ (OfNat.ofNat m : Int32) := nI_ge h hi
theorem nI_neL {i m : Nat} (h : i ≠ (OfNat.ofNat m : Nat)) (hi : i < 2147483648) (hm : (OfNat.ofNat m : Nat) < 2147483648) : ¬ nI i = (OfNat.ofNat m : Int32) := fun e => h ((nI_eq hi hm).mp e)
