/-! Who comes, who is calmed, sums of clients: sets as numbers. -/
theorem one_ne : ¬ (1 : Int32) = 0 := by decide
theorem zer_eq : (0 : Int32) = 0 := rfl
theorem p256 {n : Nat} (h : n ≤ 8) : 2 ^ n ≤ 256 := by
  have h2 : 2 ^ n ≤ 2 ^ 8 := Nat.pow_le_pow_right (by decide) h
  exact h2
def wN (f : Nat → Nat) (s n : Nat) : Nat := fo (fun k t => if s.testBit k = true then t + f k else t) 0 n 0
def wN' (f : Nat → Nat) (s i n t : Nat) : Nat := fo (fun k t => if s.testBit k = true then t + f k else t) i n t
theorem wN'_shift (f : Nat → Nat) (s : Nat) : ∀ n i t d, wN' f s i n (t + d) = wN' f s i n t + d := by
  intro n
  induction n with
  | zero => intro i t d; rfl
  | succ n ih =>
    intro i t d
    show wN' f s (i + 1) n (if s.testBit i = true then t + d + f i else t + d) = wN' f s (i + 1) n (if s.testBit i = true then t + f i else t) + d
    by_cases h : s.testBit i = true
    · rw [if_pos h, if_pos h, Nat.add_right_comm, ih]
    · rw [if_neg h, if_neg h, ih]
theorem wN'_bump (f : Nat → Nat) {s s' c : Nat} (h1 : s.testBit c = false) (h2 : s'.testBit c = true) (hne : ∀ j, j ≠ c → s'.testBit j = s.testBit j) : ∀ n i t, i ≤ c → c < i + n → wN' f s' i n t = wN' f s i n t + f c := by
  intro n
  induction n with
  | zero => intro i t h3 h4; exact absurd h4 (by omega)
  | succ n ih =>
    intro i t h3 h4
    show wN' f s' (i + 1) n (if s'.testBit i = true then t + f i else t) = wN' f s (i + 1) n (if s.testBit i = true then t + f i else t) + f c
    by_cases e : i = c
    · subst e
      rw [if_pos h2, if_neg (by rw [h1]; decide), wN'_shift]
      have : wN' f s' (i + 1) n t = wN' f s (i + 1) n t := fo_congr n (i + 1) t (fun j h5 _ => by rw [hne j (by omega)])
      rw [this]
    · rw [hne i e]
      exact ih (i + 1) _ (by omega) (by omega)
theorem or_bit (s k j : Nat) : (s ||| 2 ^ k).testBit j = (s.testBit j || decide (k = j)) := by
  rw [Nat.testBit_or, Nat.testBit_two_pow]
theorem wN_add (f : Nat → Nat) {s k n : Nat} (h : s.testBit k = false) (hk : k < n) : wN f (s ||| 2 ^ k) n = wN f s n + f k := by
  refine wN'_bump f h ?_ (fun j hj => ?_) n 0 0 (by omega) (by omega)
  · rw [or_bit]; simp
  · rw [or_bit]; simp [Ne.symm hj]
theorem wN_le (f : Nat → Nat) (b : Nat) (s n : Nat) (hf : ∀ k, k < n → f k ≤ b) : wN f s n ≤ b * n := by
  have h := fo_ind (fun k t => if s.testBit k = true then t + f k else t) (fun i t => t ≤ b * i) n 0 0 (by omega) (fun k t _ h2 ht => by
    have := hf k (by omega)
    show (if s.testBit k = true then t + f k else t) ≤ b * (k + 1)
    rw [Nat.mul_succ]
    split <;> omega)
  rw [Nat.zero_add] at h
  exact h
theorem or_self_bit {s k : Nat} (h : s.testBit k = true) : s ||| 2 ^ k = s := by
  apply Nat.eq_of_testBit_eq
  intro j
  rw [or_bit]
  by_cases e : k = j
  · subst e; simp [h]
  · simp [e]
theorem or_small {s k n : Nat} (hs : s < 2 ^ n) (hk : k < n) : s ||| 2 ^ k < 2 ^ n := Nat.or_lt_two_pow hs (Nat.pow_lt_pow_right (by decide) hk)
def cCd (s n : Nat) : Nat := wN (fun _ => 1) s n
theorem cCd_le (s n : Nat) : cCd s n ≤ n := by
  have := wN_le (fun _ => 1) 1 s n (fun _ _ => Nat.le_refl 1)
  unfold cCd
  omega
/-- one round: the clients one by one -/
def cSt (nv su : Nat → Nat) (nl wo : Nat) (k s : Nat) : Nat := if wo.testBit k = true ∨ s.testBit k = true then s else if nv k ≤ wN su s nl then s ||| 2 ^ k else s
def cRd (nv su : Nat → Nat) (nl wo s : Nat) : Nat := fo (cSt nv su nl wo) 0 nl s
def cIt (nv su : Nat → Nat) (nl wo : Nat) : Nat → Nat
  | 0 => 0
  | n + 1 => cRd nv su nl wo (cIt nv su nl wo n)
theorem cSt_small {nv su : Nat → Nat} {nl wo k s : Nat} (hs : s < 2 ^ nl) (hk : k < nl) : cSt nv su nl wo k s < 2 ^ nl := by
  unfold cSt
  split
  · exact hs
  · split
    · exact or_small hs hk
    · exact hs
theorem cRd_small {nv su : Nat → Nat} {nl wo s : Nat} (hs : s < 2 ^ nl) : cRd nv su nl wo s < 2 ^ nl :=
  fo_ind (cSt nv su nl wo) (fun _ s => s < 2 ^ nl) nl 0 s hs (fun k t _ h2 h => cSt_small h (by omega))
theorem cIt_small (nv su : Nat → Nat) (nl wo : Nat) : ∀ n, cIt nv su nl wo n < 2 ^ nl
  | 0 => Nat.two_pow_pos nl
  | n + 1 => cRd_small (cIt_small nv su nl wo n)
theorem cSt_grow {nv su : Nat → Nat} {nl wo k s : Nat} (hk : k < nl) : cSt nv su nl wo k s = s ∨ cCd (cSt nv su nl wo k s) nl = cCd s nl + 1 := by
  unfold cSt
  split
  · exact Or.inl rfl
  · rename_i h
    split
    · refine Or.inr (wN_add (fun _ => 1) ?_ hk)
      cases hb : s.testBit k with
      | false => rfl
      | true => exact absurd (Or.inr hb) h
    · exact Or.inl rfl
theorem cIt_stop {nv su : Nat → Nat} {nl wo n : Nat} (h : cIt nv su nl wo (n + 1) = cIt nv su nl wo n) : ∀ k, cIt nv su nl wo (n + k) = cIt nv su nl wo n
  | 0 => rfl
  | k + 1 => by
    show cRd nv su nl wo (cIt nv su nl wo (n + k)) = _
    rw [cIt_stop h k]
    exact h
section
variable {w m : GW} {a : Nat → Int32} {nm : Nat → Int64} {nc nr nk nl : Nat}
def cSu (a : Nat → Int32) (k : Nat) : Nat := (a (69 + 2 * k)).toNatClampNeg
def cNv (a : Nat → Int32) (k : Nat) : Nat := (a (69 + 2 * k + 1)).toNatClampNeg
theorem cSu_eq (hi : Bi a nc nr nk nl) {k : Nat} (hk : k < nl) : a (69 + 2 * k) = nI (cSu a k) ∧ cSu a k ≤ 99 := by
  obtain ⟨s, _, h, e⟩ := hi.sum hk
  unfold cSu
  rw [e, nI_clamp (by omega)]
  exact ⟨rfl, h⟩
theorem cNv_eq (hi : Bi a nc nr nk nl) {k : Nat} (hk : k < nl) : a (69 + 2 * k + 1) = nI (cNv a k) ∧ cNv a k ≤ 999 := by
  obtain ⟨s, h, e⟩ := hi.nerve hk
  unfold cNv
  rw [e, nI_clamp (by omega)]
  exact ⟨rfl, h⟩
theorem cSm_le (hi : Bi a nc nr nk nl) (s : Nat) : wN (cSu a) s nl ≤ 792 := by
  have h := wN_le (cSu a) 99 s nl (fun k hk => (cSu_eq hi hk).2)
  have := hi.cnt
  omega
theorem x_sumOf_l (h : Bq w a nm nc nr nk nl) (hi : Bi a nc nr nk nl) {s : Nat} (hs : s < 2147483648) : ∀ k n i t, i + k = nl → k < n → f_X0_sumOf_4 w n (nI s) (nI t) (nI i) = some (nI (wN' (cSu a) s i k t)) := by
  have := hi.cnt
  intro k
  induction k with
  | zero =>
    intro n i t e hn
    obtain ⟨n, rfl⟩ := fu_pos hn
    show b_X0_sumOf_4 _ w (nI s) (nI t) (nI i) = _
    unfold b_X0_sumOf_4
    rw [h.n3, if_pos (nI_le (by omega) (by omega))]
    rfl
  | succ k ih =>
    intro n i t e hn
    obtain ⟨n, rfl⟩ := fu_pos hn
    show b_X0_sumOf_4 _ w (nI s) (nI t) (nI i) = some (nI (wN' (cSu a) s (i + 1) k (if s.testBit i = true then t + cSu a i else t)))
    unfold b_X0_sumOf_4 f_X0_sumOf_29
    rw [h.n3, if_neg (nI_ge (by omega) (by omega)), if_pos (gin_nI (by omega) (by omega)), nI_clamp (by omega), h.sum (by omega), (cSu_eq hi (by omega)).1, nI_add, nI_1, ih n (i + 1) _ (by omega) (by omega), ih n (i + 1) _ (by omega) (by omega)]
    by_cases hb : s.testBit i = true
    · rw [if_neg (fun q => by rw [(bitC hs (by omega)).mp q] at hb; cases hb), if_pos hb]
    · rw [if_pos ((bitC hs (by omega)).mpr (by simpa using hb)), if_neg hb]
theorem x_sumOf (h : Bq w a nm nc nr nk nl) (hi : Bi a nc nr nk nl) {s : Nat} (hs : s < 2147483648) : F_X0_sumOf w (nI s) = some (nI (wN (cSu a) s nl)) := by
  have := hi.cnt
  exact x_sumOf_l h hi hs nl FU 0 0 (by omega) (by have := FU_big; omega)
theorem m_sumsOf_l (hi : Bi (m.1 1) nc nr nk nl) {s : Nat} (hs : s < 2147483648) : ∀ k n i t, i + k = nl → k < n → f_X11_sumsOf_4 m n (nI s) (nI t) (nI i) = some (nI (wN' (cSu (m.1 1)) s i k t)) := by
  have := hi.cnt
  intro k
  induction k with
  | zero =>
    intro n i t e hn
    obtain ⟨n, rfl⟩ := fu_pos hn
    show b_X11_sumsOf_4 _ m (nI s) (nI t) (nI i) = _
    unfold b_X11_sumsOf_4
    rw [hi.n3, if_pos (nI_le (by omega) (by omega))]
    rfl
  | succ k ih =>
    intro n i t e hn
    obtain ⟨n, rfl⟩ := fu_pos hn
    show b_X11_sumsOf_4 _ m (nI s) (nI t) (nI i) = some (nI (wN' (cSu (m.1 1)) s (i + 1) k (if s.testBit i = true then t + cSu (m.1 1) i else t)))
    unfold b_X11_sumsOf_4 f_X11_sumsOf_37
    rw [hi.n3, if_neg (nI_ge (by omega) (by omega)), m_isIn hs (by omega), Option.bind_some, m_clientRow, Option.bind_some, if_pos (gin_nI (by omega) (by omega)), nI_clamp (by omega), (cSu_eq hi (by omega)).1, nI_add, Int32.add_zero, nI_1, ih n (i + 1) _ (by omega) (by omega), ih n (i + 1) _ (by omega) (by omega)]
    by_cases hb : s.testBit i = true
    · rw [if_pos hb, if_neg (by decide), if_pos hb]
    · rw [if_neg hb, if_pos rfl, if_neg hb]
theorem m_sumsOf (hi : Bi (m.1 1) nc nr nk nl) {s : Nat} (hs : s < 2147483648) : F_X11_sumsOf m (nI s) = some (nI (wN (cSu (m.1 1)) s nl)) := by
  have := hi.cnt
  exact m_sumsOf_l hi hs nl FU 0 0 (by omega) (by have := FU_big; omega)
/-! the class's rounds -/
theorem x_come_in (h : Bq w a nm nc nr nk nl) (hi : Bi a nc nr nk nl) {wo : Nat} (hwo : wo < 2 ^ nl) (k10 : Int32 → Int32 → Int32 → Int32 → Int32 → Option Int32) (s0 : Nat) (x5 : Int32) : ∀ k n i s g, i + k = nl → k < n → s < 2 ^ nl → ((s = s0 ∧ g = 0) ∨ (g = 1 ∧ cCd s0 nl < cCd s nl)) → ∃ s' g', s' = fo (cSt (cNv a) (cSu a) nl wo) i k s ∧ s' < 2 ^ nl ∧ ((s' = s0 ∧ g' = 0) ∨ (g' = 1 ∧ cCd s0 nl < cCd s' nl)) ∧ f_X0_comingWithout_30 k10 w n (nI wo) (nI s) (nI (wN (cSu a) s nl)) (nI g) x5 (nI i) = k10 (nI wo) (nI s') (nI (wN (cSu a) s' nl)) (nI g') (x5 + 1) := by
  have hn := hi.cnt
  have h8 : 2 ^ nl ≤ 256 := p256 hn.2.2.2
  intro k
  induction k with
  | zero =>
    intro n i s g e hn2 hs hg
    obtain ⟨n, rfl⟩ := fu_pos hn2
    refine ⟨s, g, rfl, hs, hg, ?_⟩
    show b_X0_comingWithout_30 k10 _ w (nI wo) (nI s) _ (nI g) x5 (nI i) = _
    unfold b_X0_comingWithout_30
    rw [h.n3, if_pos (nI_le (by omega) (by omega))]
  | succ k ih =>
    intro n i s g e hn2 hs hg
    obtain ⟨n, rfl⟩ := fu_pos hn2
    have hk : i < nl := by omega
    show ∃ s' g', s' = fo (cSt (cNv a) (cSu a) nl wo) (i + 1) k (cSt (cNv a) (cSu a) nl wo i s) ∧ s' < 2 ^ nl ∧ ((s' = s0 ∧ g' = 0) ∨ (g' = 1 ∧ cCd s0 nl < cCd s' nl)) ∧ b_X0_comingWithout_30 k10 _ w (nI wo) (nI s) (nI (wN (cSu a) s nl)) (nI g) x5 (nI i) = _
    have hor : s ||| wo < 2 ^ nl := Nat.or_lt_two_pow hs hwo
    unfold b_X0_comingWithout_30 f_X0_comingWithout_83
    rw [h.n3, if_neg (nI_ge (by omega) (by omega)), if_pos (gin_nI (by omega) (by omega)), nI_clamp (by omega), h.nerve hk, h.sum hk, (cSu_eq hi hk).1, (cNv_eq hi hk).1, nI_1, nI_or, one_shl (by omega), nI_or, nI_add]
    have hb : (nI (s ||| wo) &&& nI (2 ^ i) = 0) = ((s ||| wo).testBit i = false) := by
      rw [← one_shl (i := i) (by omega)]
      exact bitC (by omega) (by omega)
    have hsm := cSm_le hi s
    have hnv := (cNv_eq hi hk).2
    by_cases hin : wo.testBit i = true ∨ s.testBit i = true
    · have e1 : cSt (cNv a) (cSu a) nl wo i s = s := if_pos hin
      obtain ⟨s', g', q1, q2, q3, q4⟩ := ih n (i + 1) s g (by omega) (by omega) hs hg
      refine ⟨s', g', by rw [e1]; exact q1, q2, q3, ?_⟩
      rw [if_neg (fun q => ?_)]
      · exact q4
      · have := hb.mp q
        rw [Nat.testBit_or] at this
        rcases hin with z | z <;> rw [z] at this <;> simp at this
    · have hs0 : s.testBit i = false := by
        cases hb : s.testBit i with
        | false => rfl
        | true => exact absurd (Or.inr hb) hin
      have hw0 : wo.testBit i = false := by
        cases hb : wo.testBit i with
        | false => rfl
        | true => exact absurd (Or.inl hb) hin
      rw [if_pos (hb.mpr (by rw [Nat.testBit_or, hs0, hw0]; rfl))]
      by_cases hv : cNv a i ≤ wN (cSu a) s nl
      · have e1 : cSt (cNv a) (cSu a) nl wo i s = s ||| 2 ^ i := by
          unfold cSt
          rw [if_neg hin, if_pos hv]
        have hcd : cCd (s ||| 2 ^ i) nl = cCd s nl + 1 := wN_add (fun _ => 1) hs0 hk
        have hle : cCd s0 nl ≤ cCd s nl := by
          rcases hg with ⟨z, _⟩ | ⟨_, z⟩
          · rw [z]; exact Nat.le_refl _
          · omega
        obtain ⟨s', g', q1, q2, q3, q4⟩ := ih n (i + 1) (s ||| 2 ^ i) 1 (by omega) (by omega) (or_small hs hk) (Or.inr ⟨rfl, by omega⟩)
        refine ⟨s', g', by rw [e1]; exact q1, q2, q3, ?_⟩
        rw [if_neg (nI_nlt hv (by omega)), ← wN_add (cSu a) hs0 hk]
        exact q4
      · have e1 : cSt (cNv a) (cSu a) nl wo i s = s := by
          unfold cSt
          rw [if_neg hin, if_neg hv]
        obtain ⟨s', g', q1, q2, q3, q4⟩ := ih n (i + 1) s g (by omega) (by omega) hs hg
        refine ⟨s', g', by rw [e1]; exact q1, q2, q3, ?_⟩
        rw [if_pos (nI_lt (Nat.lt_of_not_le hv) (by omega))]
        exact q4
theorem x_come_l (h : Bq w a nm nc nr nk nl) (hi : Bi a nc nr nk nl) {wo : Nat} (hwo : wo < 2 ^ nl) : ∀ k n i g, i + k = nl → k < n → ((g = 1 ∧ i ≤ cCd (cIt (cNv a) (cSu a) nl wo i) nl) ∨ (g = 0 ∧ ∃ j, i = j + 1 ∧ cIt (cNv a) (cSu a) nl wo i = cIt (cNv a) (cSu a) nl wo j)) → f_X0_comingWithout_10 w n (nI wo) (nI (cIt (cNv a) (cSu a) nl wo i)) (nI (wN (cSu a) (cIt (cNv a) (cSu a) nl wo i) nl)) (nI g) (nI i) = some (nI (cIt (cNv a) (cSu a) nl wo 8)) := by
  have hn := hi.cnt
  intro k
  induction k with
  | zero =>
    intro n i g e hn2 hg
    obtain ⟨n, rfl⟩ := fu_pos hn2
    show b_X0_comingWithout_10 _ w (nI wo) _ _ (nI g) (nI i) = _
    unfold b_X0_comingWithout_10
    rw [h.n3, if_pos (nI_le (by omega) (by omega))]
    rcases hg with ⟨_, q⟩ | ⟨_, j, rfl, q⟩
    · obtain ⟨s', g', q1, q2, q3, q4⟩ := x_come_in h hi hwo (fun _ _ _ _ _ => none) (cIt (cNv a) (cSu a) nl wo i) 0 nl (nl + 1) 0 (cIt (cNv a) (cSu a) nl wo i) 0 (by omega) (by omega) (cIt_small _ _ _ _ _) (Or.inl ⟨rfl, rfl⟩)
      have q5 : cIt (cNv a) (cSu a) nl wo (i + 1) = s' := q1.symm
      rcases q3 with ⟨z, _⟩ | ⟨_, z⟩
      · have q6 := cIt_stop (q5.trans z) (8 - i)
        rw [show i + (8 - i) = 8 by omega] at q6
        rw [q6]
      · have := cCd_le s' nl
        omega
    · have q6 := cIt_stop q (8 - j)
      rw [show j + (8 - j) = 8 by omega] at q6
      rw [q6, q]
  | succ k ih =>
    intro n i g e hn2 hg
    obtain ⟨n, rfl⟩ := fu_pos hn2
    show b_X0_comingWithout_10 _ w (nI wo) _ _ (nI g) (nI i) = _
    unfold b_X0_comingWithout_10
    rw [h.n3, if_neg (nI_ge (by omega) (by omega))]
    rcases hg with ⟨rfl, q⟩ | ⟨rfl, j, rfl, q⟩
    · rw [if_neg (by decide)]
      obtain ⟨s', g', q1, q2, q3, q4⟩ := x_come_in h hi hwo (f_X0_comingWithout_10 w n) (cIt (cNv a) (cSu a) nl wo i) (nI i) nl FU 0 (cIt (cNv a) (cSu a) nl wo i) 0 (by omega) (by have := FU_big; omega) (cIt_small _ _ _ _ _) (Or.inl ⟨rfl, rfl⟩)
      have q5 : cIt (cNv a) (cSu a) nl wo (i + 1) = s' := q1.symm
      refine q4.trans ?_
      rw [← q5, nI_1]
      refine ih n (i + 1) g' (by omega) (by omega) ?_
      rcases q3 with ⟨z, z2⟩ | ⟨z2, z⟩
      · exact Or.inr ⟨z2, i, rfl, q5.trans z⟩
      · refine Or.inl ⟨z2, ?_⟩
        rw [q5]
        omega
    · rw [if_pos nI_0]
      have q6 := cIt_stop q (8 - j)
      rw [show j + (8 - j) = 8 by omega] at q6
      rw [q6, q]
/-- the set of those who come -/
def sCo (a : Nat → Int32) (nl wo : Nat) : Nat := cIt (cNv a) (cSu a) nl wo 8
theorem sCo_small (a : Nat → Int32) (nl wo : Nat) : sCo a nl wo < 2 ^ nl := cIt_small _ _ _ _ _
theorem x_coming (h : Bq w a nm nc nr nk nl) (hi : Bi a nc nr nk nl) {wo : Nat} (hwo : wo < 2 ^ nl) : F_X0_comingWithout w (nI wo) = some (nI (sCo a nl wo)) := by
  have hn := hi.cnt
  have h0 : wN (cSu a) 0 nl = 0 := fo_ind _ (fun _ t => t = 0) nl 0 0 rfl (fun k t _ _ ht => by
    show (if (0 : Nat).testBit k = true then t + cSu a k else t) = 0
    rw [if_neg (by simp)]; exact ht)
  have q := x_come_l h hi hwo nl FU 0 1 (by omega) (by have := FU_big; omega) (Or.inl ⟨rfl, by omega⟩)
  unfold F_X0_comingWithout
  have e : nI (wN (cSu a) (cIt (cNv a) (cSu a) nl wo 0) nl) = (0 : Int32) := by
    show nI (wN (cSu a) 0 nl) = _
    rw [h0]; rfl
  rw [e] at q
  exact q
end
