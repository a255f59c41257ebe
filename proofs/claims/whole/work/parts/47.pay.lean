/-! Sets counted, who is calmed, clients paid. -/
def pcN (s : Nat) : Nat := cCd s 10
theorem bc_eq {s : Nat} (h : s < 1024) : F_J6_bitCount_0f7a4 (nI s) = some (nI (pcN s)) := (by decide +kernel : ∀ j : Fin 1024, F_J6_bitCount_0f7a4 (nI j.val) = some (nI (pcN j.val))) ⟨s, h⟩
theorem bits_mono : ∀ n (x y r : Int32), f_X11_bits_4 n x y = some r → ∀ k, f_X11_bits_4 (n + k) x y = some r := by
  intro n
  induction n with
  | zero => intro x y r h; cases h
  | succ n ih =>
    intro x y r h k
    rw [Nat.succ_add]
    change b_X11_bits_4 (f_X11_bits_4 n) x y = some r at h
    show b_X11_bits_4 (f_X11_bits_4 (n + k)) x y = some r
    unfold b_X11_bits_4 at h ⊢
    by_cases h0 : y = 0
    · rw [if_pos h0] at h ⊢; exact h
    · rw [if_neg h0] at h ⊢; exact ih _ _ _ h k
theorem m_bits {s : Nat} (h : s < 1024) : F_X11_bits (nI s) = some (nI (pcN s)) := by
  have h1 : f_X11_bits_4 12 (0 : Int32) (nI s) = some (nI (pcN s)) := (by decide +kernel : ∀ j : Fin 1024, f_X11_bits_4 12 (0 : Int32) (nI j.val) = some (nI (pcN j.val))) ⟨s, h⟩
  have h2 := bits_mono 12 0 (nI s) _ h1 (FU - 12)
  rw [show 12 + (FU - 12) = FU by have := FU_big; omega] at h2
  exact h2
theorem pc_full {n s : Nat} (hn : n ≤ 8) (h : s < 2 ^ n - 1) : pcN s < pcN (2 ^ n - 1) := by
  have h2 : 2 ^ n ≤ 2 ^ 8 := Nat.pow_le_pow_right (by decide) hn
  have key : ∀ i : Fin 9, ∀ j : Fin 256, j.val < 2 ^ i.val - 1 → pcN j.val < pcN (2 ^ i.val - 1) := by decide +kernel
  exact key ⟨n, by omega⟩ ⟨s, by omega⟩ h
theorem pcN_small (s : Nat) : pcN s ≤ 10 := cCd_le s 10
/-! the reference's rounds -/
theorem and_keep {s k : Nat} (hs : s < 256) (hk : k < 8) (h : s.testBit k = false) : nI s &&& (nI (2 ^ k) ^^^ (-1 : Int32)) = nI s :=
  (by decide +kernel : ∀ i : Fin 256, ∀ j : Fin 8, i.val.testBit j.val = false → nI i.val &&& (nI (2 ^ j.val) ^^^ (-1 : Int32)) = nI i.val) ⟨s, hs⟩ ⟨k, hk⟩ h
theorem and_some {s k : Nat} (hs : s < 256) (hk : k < 8) : nI s &&& (nI (2 ^ k) ^^^ (-1 : Int32)) = nI (s &&& (4294967295 - 2 ^ k)) :=
  (by decide +kernel : ∀ i : Fin 256, ∀ j : Fin 8, nI i.val &&& (nI (2 ^ j.val) ^^^ (-1 : Int32)) = nI (i.val &&& (4294967295 - 2 ^ j.val))) ⟨s, hs⟩ ⟨k, hk⟩
section
variable {w m : GW} {a : Nat → Int32} {nm : Nat → Int64} {nc nr nk nl : Nat}
theorem m_come_in (hi : Bi (m.1 1) nc nr nk nl) {wo : Nat} (hwo : wo < 2 ^ nl) (k4 : Int32 → Int32 → Int32 → Option Int32) (x3 : Int32) : ∀ k n i s, i + k = nl → k < n → s < 2 ^ nl → f_X11_coming_13 k4 m n (nI wo) (nI s) x3 (nI i) = k4 (nI wo) (nI (fo (cSt (cNv (m.1 1)) (cSu (m.1 1)) nl wo) i k s)) (x3 + 1) := by
  have hn := hi.cnt
  have h8 : 2 ^ nl ≤ 256 := p256 hn.2.2.2
  intro k
  induction k with
  | zero =>
    intro n i s e hn2 hs
    obtain ⟨n, rfl⟩ := fu_pos hn2
    show b_X11_coming_13 k4 _ m (nI wo) (nI s) x3 (nI i) = _
    unfold b_X11_coming_13
    rw [hi.n3, if_pos (nI_le (by omega) (by omega))]
    rfl
  | succ k ih =>
    intro n i s e hn2 hs
    obtain ⟨n, rfl⟩ := fu_pos hn2
    have hk : i < nl := by omega
    show b_X11_coming_13 k4 _ m (nI wo) (nI s) x3 (nI i) = k4 (nI wo) (nI (fo (cSt (cNv (m.1 1)) (cSu (m.1 1)) nl wo) (i + 1) k (cSt (cNv (m.1 1)) (cSu (m.1 1)) nl wo i s))) (x3 + 1)
    have hsm := cSm_le hi (s &&& (4294967295 - 2 ^ i))
    have hnv := (cNv_eq hi hk).2
    have hle : s &&& (4294967295 - 2 ^ i) ≤ s := Nat.and_le_left
    unfold b_X11_coming_13 f_X11_coming_65 f_X11_coming_66 f_X11_coming_80
    rw [hi.n3, if_neg (nI_ge (by omega) (by omega)), m_isIn (by omega) (by omega), Option.bind_some, m_clientRow, Option.bind_some, nI_1, if_pos (gin_nI (by omega) (by omega)), nI_clamp (by omega), (cNv_eq hi hk).1, one_shl (by omega), nI_1, nI_or]
    by_cases hw0 : wo.testBit i = true
    · have e1 : cSt (cNv (m.1 1)) (cSu (m.1 1)) nl wo i s = s := if_pos (Or.inl hw0)
      rw [if_pos hw0, if_neg (by decide), if_pos rfl, ih n (i + 1) s (by omega) (by omega) hs, e1]
    · rw [if_neg hw0, if_pos rfl]
      by_cases hs0 : s.testBit i = true
      · have e1 : cSt (cNv (m.1 1)) (cSu (m.1 1)) nl wo i s = s := if_pos (Or.inr hs0)
        rw [and_some (by omega) (by omega), m_sumsOf hi (by omega), Option.bind_some, or_self_bit hs0, if_pos zer_eq, if_neg one_ne, ih n (i + 1) s (by omega) (by omega) hs, e1]
        split <;> rfl
      · have hs1 : s.testBit i = false := by simpa using hs0
        have hsm2 := cSm_le hi s
        rw [and_keep (by omega) (by omega) hs1, m_sumsOf hi (by omega), Option.bind_some, if_pos zer_eq, if_neg one_ne, ih n (i + 1) s (by omega) (by omega) hs, ih n (i + 1) _ (by omega) (by omega) (or_small hs hk)]
        by_cases hv : cNv (m.1 1) i ≤ wN (cSu (m.1 1)) s nl
        · have e1 : cSt (cNv (m.1 1)) (cSu (m.1 1)) nl wo i s = s ||| 2 ^ i := by
            unfold cSt
            rw [if_neg (by rintro (q | q) <;> contradiction), if_pos hv]
          rw [if_neg (nI_nlt hv (by omega)), e1]
        · have e1 : cSt (cNv (m.1 1)) (cSu (m.1 1)) nl wo i s = s := by
            unfold cSt
            rw [if_neg (by rintro (q | q) <;> contradiction), if_neg hv]
          rw [if_pos (nI_lt (Nat.lt_of_not_le hv) (by omega)), e1]
theorem m_come_l (hi : Bi (m.1 1) nc nr nk nl) {wo : Nat} (hwo : wo < 2 ^ nl) : ∀ k n i, i + k = 8 → k < n → f_X11_coming_4 m n (nI wo) (nI (cIt (cNv (m.1 1)) (cSu (m.1 1)) nl wo i)) (nI i) = some (nI (sCo (m.1 1) nl wo)) := by
  have hn := hi.cnt
  intro k
  induction k with
  | zero =>
    intro n i e hn2
    obtain ⟨n, rfl⟩ := fu_pos hn2
    show b_X11_coming_4 _ m (nI wo) _ (nI i) = _
    unfold b_X11_coming_4
    rw [if_pos (nI_leL (by omega) (by omega)), show i = 8 by omega]
    rfl
  | succ k ih =>
    intro n i e hn2
    obtain ⟨n, rfl⟩ := fu_pos hn2
    show b_X11_coming_4 _ m (nI wo) _ (nI i) = _
    unfold b_X11_coming_4
    rw [if_neg (nI_geL (by omega) (by omega))]
    refine (m_come_in hi hwo (f_X11_coming_4 m n) (nI i) nl FU 0 _ (by omega) (by have := FU_big; omega) (cIt_small _ _ _ _ _)).trans ?_
    rw [nI_1]
    exact ih n (i + 1) (by omega) (by omega)
theorem m_coming (hi : Bi (m.1 1) nc nr nk nl) {wo : Nat} (hwo : wo < 2 ^ nl) : F_X11_coming m (nI wo) = some (nI (sCo (m.1 1) nl wo)) :=
  m_come_l hi hwo 8 FU 0 (by omega) (by have := FU_big; omega)
/-! who must be calmed -/
def cOk (a : Nat → Int32) (nl : Nat) (s : Nat) : Prop := wN (cSu a) (sCo a nl s) nl ≤ (a 5).toNatClampNeg
theorem cOk_iff (hi : Bi a nc nr nk nl) (s : Nat) : (a 5 < nI (wN (cSu a) (sCo a nl s) nl)) = ¬ cOk a nl s := by
  obtain ⟨c, hc, ec⟩ := hi.cash
  have := cSm_le hi (sCo a nl s)
  unfold cOk
  rw [ec, nI_clamp (by omega)]
  apply propext
  rw [nI_ltI (by omega) (by omega)]
  omega
theorem cOk_pos (hi : Bi a nc nr nk nl) {s : Nat} (h : cOk a nl s) : ¬ a 5 < nI (wN (cSu a) (sCo a nl s) nl) := fun q => by
  rw [cOk_iff hi] at q
  exact q h
theorem cOk_neg (hi : Bi a nc nr nk nl) {s : Nat} (h : ¬ cOk a nl s) : a 5 < nI (wN (cSu a) (sCo a nl s) nl) := by
  rw [cOk_iff hi]
  exact h
theorem cOk_all (hi : Bi a nc nr nk nl) : cOk a nl (2 ^ nl - 1) := by
  have hb : ∀ k, k < nl → (2 ^ nl - 1).testBit k = true := fun k hk => by
    rw [Nat.testBit_two_pow_sub_one]; simp [hk]
  have h0 : ∀ n, cIt (cNv a) (cSu a) nl (2 ^ nl - 1) n = 0 := by
    intro n
    induction n with
    | zero => rfl
    | succ n ih =>
      show cRd (cNv a) (cSu a) nl (2 ^ nl - 1) (cIt (cNv a) (cSu a) nl (2 ^ nl - 1) n) = 0
      rw [ih]
      exact fo_ind _ (fun _ s => s = 0) nl 0 0 rfl (fun k s _ h2 e => by
        show cSt _ _ _ _ k s = 0
        unfold cSt
        rw [if_pos (Or.inl (hb k (by omega)))]
        exact e)
  have h1 : wN (cSu a) 0 nl = 0 := fo_ind _ (fun _ t => t = 0) nl 0 0 rfl (fun k t _ _ ht => by
    show (if (0 : Nat).testBit k = true then t + cSu a k else t) = 0
    rw [if_neg (by simp)]; exact ht)
  unfold cOk sCo
  rw [h0, h1]
  exact Nat.zero_le _
/-- what both come to: b is the best so far (none: all that went ahead failed) -/
theorem calm_l (h : Bq (gsub w e_shX_shB_14) (m.1 1) nm nc nr nk nl) (hi : Bi (m.1 1) nc nr nk nl) : ∀ k n n2 i (b b2 : Int32), i + k = 2 ^ nl → k < n → k < n2 → ((∃ j, j < i ∧ b = nI j ∧ b2 = nI j) ∨ (i < 2 ^ nl ∧ b = nI (2 ^ nl - 1) ∧ b2 = (-1 : Int32))) → ∃ j, j < 2 ^ nl ∧ f_X10_leastCalmed_16 w n (nI (2 ^ nl - 1)) b (nI i) = some (nI j) ∧ f_X11_calming_4 m n2 b2 (nI i) = some (nI j) := by
  have hn := hi.cnt
  have h8 : 2 ^ nl ≤ 256 := p256 hn.2.2.2
  have h1 : 0 < 2 ^ nl := Nat.two_pow_pos nl
  intro k
  induction k with
  | zero =>
    intro n n2 i b b2 e hk1 hk2 hb
    obtain ⟨n, rfl⟩ := fu_pos hk1
    obtain ⟨n2, rfl⟩ := fu_pos hk2
    rcases hb with ⟨j, hj, rfl, rfl⟩ | ⟨hlt, _⟩
    · refine ⟨j, by omega, ?_, ?_⟩
      · show b_X10_leastCalmed_16 _ w _ _ (nI i) = _
        unfold b_X10_leastCalmed_16
        rw [if_pos (nI_lt (by omega) (by omega))]
      · show b_X11_calming_4 _ m _ (nI i) = _
        unfold b_X11_calming_4
        rw [hi.n3, one_shl (by omega), if_pos (nI_le (by omega) (by omega))]
    · exact absurd hlt (by omega)
  | succ k ih =>
    intro n n2 i b b2 e hk1 hk2 hb
    obtain ⟨n, rfl⟩ := fu_pos hk1
    obtain ⟨n2, rfl⟩ := fu_pos hk2
    have hlt : i < 2 ^ nl := by omega
    have hcash : w.1 14 1 = m.1 1 5 := h.cash
    have hpi := pcN_small i
    show ∃ j, j < 2 ^ nl ∧ b_X10_leastCalmed_16 _ w _ _ (nI i) = _ ∧ b_X11_calming_4 _ m _ (nI i) = _
    unfold b_X10_leastCalmed_16 b_X11_calming_4 f_X10_leastCalmed_59 f_X11_calming_35 f_X11_calming_55
    rw [if_neg (nI_nlt (by omega) (by omega)), bc_eq (by omega), Option.bind_some, hi.n3, one_shl (by omega), if_neg (nI_ge (by omega) (by omega)), m_bits (by omega), Option.bind_some, x_coming h hi hlt, Option.bind_some, m_coming hi hlt, Option.bind_some]
    have hsc := sCo_small (m.1 1) nl i
    rw [x_sumOf h hi (by omega), Option.bind_some, m_sumsOf hi (by omega), Option.bind_some, hcash, nI_1]
    rcases hb with ⟨j, hj, rfl, rfl⟩ | ⟨_, rfl, rfl⟩
    · have hpj := pcN_small j
      rw [bc_eq (by omega), Option.bind_some, if_neg (nI_nm (by omega)), m_bits (by omega), Option.bind_some]
      by_cases hp : pcN i < pcN j
      · rw [if_neg (nI_ge hp (by omega)), if_pos (nI_lt hp (by omega))]
        by_cases hc : cOk (m.1 1) nl i
        · rw [if_neg (cOk_pos hi hc), if_neg (cOk_pos hi hc)]
          exact ih n n2 (i + 1) _ _ (by omega) (by omega) (by omega) (Or.inl ⟨i, by omega, rfl, rfl⟩)
        · rw [if_pos (cOk_neg hi hc), if_pos (cOk_neg hi hc)]
          exact ih n n2 (i + 1) _ _ (by omega) (by omega) (by omega) (Or.inl ⟨j, by omega, rfl, rfl⟩)
      · rw [if_pos (nI_le (Nat.le_of_not_lt hp) (by omega)), if_neg (nI_nlt (Nat.le_of_not_lt hp) (by omega))]
        exact ih n n2 (i + 1) _ _ (by omega) (by omega) (by omega) (Or.inl ⟨j, by omega, rfl, rfl⟩)
    · rw [bc_eq (by omega), Option.bind_some, if_pos rfl]
      have hpf := pcN_small (2 ^ nl - 1)
      by_cases hz : i = 2 ^ nl - 1
      · have hc : cOk (m.1 1) nl i := by rw [hz]; exact cOk_all hi
        rw [if_pos (nI_le (by rw [hz]; exact Nat.le_refl _) (by omega)), if_neg (cOk_pos hi hc)]
        exact ih n n2 (i + 1) _ _ (by omega) (by omega) (by omega) (Or.inl ⟨2 ^ nl - 1, by omega, rfl, by rw [hz]⟩)
      · have hp : pcN i < pcN (2 ^ nl - 1) := pc_full (by omega) (by omega)
        rw [if_neg (nI_ge hp (by omega))]
        by_cases hc : cOk (m.1 1) nl i
        · rw [if_neg (cOk_pos hi hc), if_neg (cOk_pos hi hc)]
          exact ih n n2 (i + 1) _ _ (by omega) (by omega) (by omega) (Or.inl ⟨i, by omega, rfl, rfl⟩)
        · rw [if_pos (cOk_neg hi hc), if_pos (cOk_neg hi hc)]
          exact ih n n2 (i + 1) _ _ (by omega) (by omega) (by omega) (Or.inr ⟨by omega, rfl, rfl⟩)
theorem calm_both (h : Bq (gsub w e_shX_shB_14) (m.1 1) nm nc nr nk nl) (hi : Bi (m.1 1) nc nr nk nl) : ∃ j, j < 2 ^ nl ∧ F_X10_leastCalmed w = some (nI j) ∧ F_X11_calming m = some (nI j) := by
  have hn := hi.cnt
  have h8 : 2 ^ nl ≤ 256 := p256 hn.2.2.2
  have h1 : 0 < 2 ^ nl := Nat.two_pow_pos nl
  have hn3 : w.1 14 6 = nI nl := h.n3
  obtain ⟨j, h2, h3, h4⟩ := calm_l h hi (2 ^ nl) FU FU 0 (nI (2 ^ nl - 1)) (-1) (by omega) (by have := FU_big; omega) (by have := FU_big; omega) (Or.inr ⟨by omega, rfl, rfl⟩)
  refine ⟨j, h2, ?_, h4⟩
  unfold F_X10_leastCalmed
  rw [hn3, one_shl (by omega), nq_subL (by show 1 ≤ _; omega)]
  exact h3
end
