/-! Any part of a bank is read; all of them are. -/
section
variable {y m : GW} {B : Nat → Nat} {n T i nc nr nk nl f : Nat}
theorem BP.flag (h : BP y m B n T i nc nr nk nl f) {g : Nat} (hg : g < 64) (h0 : g.testBit 0 = f.testBit 0) (h1 : g.testBit 1 = f.testBit 1) : BP y (gI m 0 20 (nI g)) B n T i nc nr nk nl g := by
  obtain ⟨⟨a1, a2⟩, ⟨b1, b2, b3⟩, c1, c2, c3, c4⟩ := h
  refine ⟨⟨SY.mv a1 (fun k hk => gI_of _ _ (by omega)) rfl, a2⟩, ⟨b1, b2, b3⟩, gI_at _ _ _, hg, ?_, ?_⟩
  · rw [h0]; exact c3
  · rw [h1]; exact c4
theorem bits64b : ∀ f : Fin 64, ∀ j : Fin 4, (f.val ||| 2 ^ (j.val + 2)) < 64 ∧ (f.val ||| 2 ^ (j.val + 2)).testBit 0 = f.val.testBit 0 ∧ (f.val ||| 2 ^ (j.val + 2)).testBit 1 = f.val.testBit 1 := by decide +kernel
theorem m_45 (h : BP y m B n T i nc nr nk nl f) {j : Nat} (hj : j < 4) : ∃ m1, f_X11_bankPart_45 (nI (j + 2)) m = f_X11_bankPart_66 (nI (j + 2)) m1 ∧ KM m m1 ∧ ∃ g, BP y m1 B n T i nc nr nk nl g := by
  obtain ⟨b1, b2, b3⟩ := bits64b ⟨f, h.2.2.2.1⟩ ⟨j, hj⟩
  refine ⟨gI m 0 20 (nI (f ||| 2 ^ (j + 2))), ?_, KM.flag _, f ||| 2 ^ (j + 2), h.flag b1 b2 b3⟩
  unfold f_X11_bankPart_45
  rw [if_pos (nI_gtL (by show 1 < j + 2; omega) (by omega)), h.2.2.1, one_shl (by omega), nI_or]
theorem kmap_big : ∀ k : Fin 28, k.val = 0 ∨ k.val = 1 ∨ k.val = 2 ∨ k.val = 4 ∨ k.val = 7 ∨ k.val = 12 ∨ (¬ kmap (nI k.val) < 0 ∧ ¬ kmap (nI k.val) ≤ (5 : Int32)) := by decide +kernel
theorem x_dup (h : BP y m B n T i nc nr nk nl f) (hO : tO B (tp B i)) {o2 : Option (Int32 × GW)} : PO m B n T i ((F_X8_fail (5 : Int32) (gsub y e_shBR_shT_1)).bind fun q8 => (if q8.1 = 0 ∨ q8.1 = 1 then some (q8.1, (gput y e_shBR_shT_1 q8.2)) else none)) ((F_X11_fails (5 : Int32) m).bind fun q6 => (if q6.1 = 0 ∨ q6.1 = 1 then some (q6.1, q6.2) else none)) :=
  PO.of KM.rf (y_fail h.1.1 h.1.2 hO.2 (k := 5) (by omega) (fun _ _ => False)) (fun _ _ _ _ z => z)
theorem x_here (h : BP y m B n T i nc nr nk nl f) : PO m B n T i ((F_X8_failHere (gsub y e_shBR_shT_1)).bind fun q8 => (if q8.1 = 0 ∨ q8.1 = 1 then some (q8.1, (gput y e_shBR_shT_1 q8.2)) else none)) (f_X11_bankPart_16 m) :=
  PO.of KM.rf (y_here h.1.1 h.1.2 (fun _ _ => False)) (fun _ _ _ _ z => z)
theorem x_part (h : BP y m B n T i nc nr nk nl f) : PO m B n T i (F_X1_readPart y) (F_X11_bankPart m) := by
  have hw := y_inw h.1.1
  have c2 := h.2.2.2.1
  have hw1 : F_X11_inWords m = some (kmap (y.1 1 2)) := hw.1
  have hw2 : y.1 1 2 = (-1 : Int32) ∨ ∃ k, k < 28 ∧ y.1 1 2 = nI k ∧ tO B (tp B i) ∧ tK B (tp B i) = 1 := hw.2
  have bit : ∀ k, k < 2 → ((((m.1 0 20) >>> (nI k &&& 31)) &&& (1 : Int32)) = (1 : Int32)) = (f.testBit k = true) := fun k hk => by
    rw [h.2.2.1]; exact bitM (by omega) (by omega)
  have bit0 : ((((m.1 0 20) >>> ((0 : Int32) &&& 31)) &&& (1 : Int32)) = (1 : Int32)) = (f.testBit 0 = true) := bit 0 (by omega)
  have bit1 : ((((m.1 0 20) >>> ((1 : Int32) &&& 31)) &&& (1 : Int32)) = (1 : Int32)) = (f.testBit 1 = true) := bit 1 (by omega)
  have hOk : ∀ k, k < 28 → y.1 1 2 = nI k → tO B (tp B i) := by
    intro k hk e
    rcases hw2 with z | ⟨j, _, _, z, _⟩
    · exact absurd (e.symm.trans z) (nI_nm (by omega))
    · exact z
  unfold F_X11_bankPart
  rw [hw1, Option.bind_some]
  by_cases k0 : y.1 1 2 = (0 : Int32)
  · have hO := hOk 0 (by omega) k0
    unfold F_X1_readPart
    rw [if_pos k0, k0, show kmap 0 = (0 : Int32) by decide, if_neg (by decide), if_pos (by decide), if_neg (by decide)]
    by_cases q : f.testBit 0 = true
    · rw [if_pos (bit0.mpr q)]
      refine PO.bb1 ?_
      unfold F_X1_readOdds
      rw [h.2.2.2.2.1, if_pos q, if_neg one_ne]
      exact x_dup h hO (o2 := none)
    · rw [if_neg (fun z => q (bit0.mp z))]
      exact (x_odds h hO (by simpa using q)).bb1
  by_cases k1 : y.1 1 2 = (1 : Int32)
  · have hO := hOk 1 (by omega) k1
    unfold F_X1_readPart
    rw [if_neg k0, if_pos k1, k1, show kmap 1 = (1 : Int32) by decide, if_neg (by decide), if_pos (by decide), if_neg (by decide)]
    by_cases q : f.testBit 1 = true
    · rw [if_pos (bit1.mpr q)]
      refine PO.bb1 ?_
      unfold F_X1_readCash
      rw [h.2.2.2.2.2, if_pos q, if_neg one_ne]
      exact x_dup h hO (o2 := none)
    · rw [if_neg (fun z => q (bit1.mp z))]
      exact (x_cash h hO (by simpa using q)).bb1
  by_cases k2 : y.1 1 2 = (2 : Int32)
  · have hO := hOk 2 (by omega) k2
    unfold F_X1_readPart
    rw [if_neg k0, if_neg k1, if_pos k2, k2, show kmap 2 = (2 : Int32) by decide, if_neg (by decide), if_pos (by decide), if_pos (by decide)]
    obtain ⟨m1, h1, h2, g, h3⟩ := m_45 h (j := 0) (by omega)
    rw [show f_X11_bankPart_45 (2 : Int32) m = f_X11_bankPart_66 (2 : Int32) m1 from h1]
    unfold f_X11_bankPart_66
    rw [if_neg (by decide), if_neg (by decide), if_pos rfl]
    exact PO.km h2 (x_corner h3 hO).bb1
  by_cases k4 : y.1 1 2 = (4 : Int32)
  · have hO := hOk 4 (by omega) k4
    unfold F_X1_readPart
    rw [if_neg k0, if_neg k1, if_neg k2, if_neg (by rw [k4]; decide), if_pos k4, k4, show kmap 4 = (3 : Int32) by decide, if_neg (by decide), if_pos (by decide), if_pos (by decide)]
    obtain ⟨m1, h1, h2, g, h3⟩ := m_45 h (j := 1) (by omega)
    rw [show f_X11_bankPart_45 (3 : Int32) m = f_X11_bankPart_66 (3 : Int32) m1 from h1]
    unfold f_X11_bankPart_66
    rw [if_neg (by decide), if_neg (by decide), if_neg (by decide), if_pos rfl]
    exact PO.km h2 (x_rank h3 hO).bb1
  by_cases k7 : y.1 1 2 = (7 : Int32)
  · have hO := hOk 7 (by omega) k7
    unfold F_X1_readPart
    rw [if_neg k0, if_neg k1, if_neg k2, if_neg (by rw [k7]; decide), if_neg k4, if_neg (by rw [k7]; decide), if_neg (by rw [k7]; decide), if_pos k7, k7, show kmap 7 = (4 : Int32) by decide, if_neg (by decide), if_pos (by decide), if_pos (by decide)]
    obtain ⟨m1, h1, h2, g, h3⟩ := m_45 h (j := 2) (by omega)
    rw [show f_X11_bankPart_45 (4 : Int32) m = f_X11_bankPart_66 (4 : Int32) m1 from h1]
    unfold f_X11_bankPart_66
    rw [if_neg (by decide), if_neg (by decide), if_neg (by decide), if_neg (by decide), if_pos rfl]
    exact PO.km h2 (x_clerk h3 hO).bb1
  by_cases k12 : y.1 1 2 = (12 : Int32)
  · have hO := hOk 12 (by omega) k12
    unfold F_X1_readPart
    rw [if_neg k0, if_neg k1, if_neg k2, if_neg (by rw [k12]; decide), if_neg k4, if_neg (by rw [k12]; decide), if_neg (by rw [k12]; decide), if_neg k7, if_neg (by rw [k12]; decide), if_neg (by rw [k12]; decide), if_neg (by rw [k12]; decide), if_neg (by rw [k12]; decide), if_pos k12, k12, show kmap 12 = (5 : Int32) by decide, if_neg (by decide), if_pos (by decide), if_pos (by decide)]
    obtain ⟨m1, h1, h2, g, h3⟩ := m_45 h (j := 3) (by omega)
    rw [show f_X11_bankPart_45 (5 : Int32) m = f_X11_bankPart_66 (5 : Int32) m1 from h1]
    unfold f_X11_bankPart_66
    rw [if_neg (by decide), if_neg (by decide), if_neg (by decide), if_neg (by decide), if_neg (by decide)]
    exact PO.km h2 (x_client h3 hO).bb1
  have e : F_X1_readPart y = ((F_X8_failHere (gsub y e_shBR_shT_1)).bind fun q8 => (if q8.1 = 0 ∨ q8.1 = 1 then some (q8.1, (gput y e_shBR_shT_1 q8.2)) else none)) := by
    unfold F_X1_readPart
    simp only [if_neg k0, if_neg k1, if_neg k2, if_neg k4, if_neg k7, if_neg k12, ite_self]
  rw [e]
  rcases hw2 with z | ⟨k, hk, z, _⟩
  · rw [z, show kmap (-1) = (-1 : Int32) by decide, if_pos (by decide)]
    exact x_here h
  · rw [z] at k0 k1 k2 k4 k7 k12
    rcases kmap_big ⟨k, hk⟩ with q | q | q | q | q | q | kb
    · exact absurd (congrArg nI q) k0
    · exact absurd (congrArg nI q) k1
    · exact absurd (congrArg nI q) k2
    · exact absurd (congrArg nI q) k4
    · exact absurd (congrArg nI q) k7
    · exact absurd (congrArg nI q) k12
    · rw [z, if_neg kb.1, if_neg kb.2]
      exact x_here h
theorem mK_0 (B : Nat → Nat) (p : Nat) : (tK B p = 0) = (mK B p = 0) := by
  rcases kinds B p with z | z | z | z | z | z | z
  · rw [z.1, z.2]
  · rw [z.1, z.2.1] <;> decide
  · rw [z.1, z.2.1] <;> decide
  · rw [z.1, z.2.1] <;> decide
  · rw [z.1, z.2.1] <;> decide
  · rw [z.1, z.2.1] <;> decide
  · rw [z.1, z.2] <;> decide
/-- all parts are read -/
theorem x_parts : ∀ (d : Nat) (i a n1 n2 nc nr nk nl f : Nat) (y m : GW), BP y m B n T i nc nr nk nl f → T - i ≤ d → a ≤ i → d + 2 < n1 → d + 2 < n2 →
    (∃ y' m' nc nr nk nl f j, f_X1_readParts_19 n1 (nI a) y = some (1, y') ∧ f_X11_bank_31 n2 (1 : Int32) m = f_X11_bank_50 m' ∧ BP y' m' B n T j nc nr nk nl f ∧ KM m m') ∨
    (∃ y' m', f_X1_readParts_19 n1 (nI a) y = some (0, y') ∧ f_X11_bank_31 n2 (1 : Int32) m = f_X11_bank_50 m' ∧ FE (gsub y' e_shBR_shT_1) m' ∧ KM m m') := by
  intro d
  induction d with
  | zero =>
    intro i a n1 n2 nc nr nk nl f y m h hd
    have := h.1.1.2.1.2.2.2
    omega
  | succ d ih =>
    intro i a n1 n2 nc nr nk nl f y m h hd ha hn1 hn2
    have hT := h.1.1.2.1
    have hb := hT.1
    have hi := hT.2.2.2
    obtain ⟨n1, rfl⟩ := fu_pos (show 0 < n1 by omega)
    obtain ⟨n2, rfl⟩ := fu_pos (show 0 < n2 by omega)
    have ex : f_X1_readParts_19 (n1 + 1) (nI a) y = (if tK B (tp B i) = 0 then some ((1 : Int32), y) else ((F_X1_readPart y).bind fun q4 => (if q4.1 = 0 then (some ((0 : Int32), q4.2)) else (f_X1_readParts_19 n1 (nI (a + 1)) q4.2)))) := by
      show b_X1_readParts_19 _ (nI a) y = _
      unfold b_X1_readParts_19
      rw [if_neg (nI_geL (by show a < 901; omega) (by omega)), show y.1 1 1 = tK B (tp B i) from h.1.1.2.2.1.2.1, nI_1]
    have em : f_X11_bank_31 (n2 + 1) (1 : Int32) m = (if tK B (tp B i) = 0 then f_X11_bank_50 m else ((F_X11_bankPart m).bind fun q7 => (f_X11_bank_31 n2 q7.1 q7.2))) := by
      show b_X11_bank_31 _ (1 : Int32) m = _
      unfold b_X11_bank_31
      rw [if_neg one_ne, show m.1 0 12 = mK B (tp B i) from h.1.1.2.2.2.1.1]
      by_cases q : tK B (tp B i) = 0
      · rw [if_pos q, if_pos (mK_0 B _ ▸ q)]
      · rw [if_neg q, if_neg (fun z => q (mK_0 B _ ▸ z))]
    rw [ex, em]
    by_cases q : tK B (tp B i) = 0
    · rw [if_pos q, if_pos q]
      exact Or.inl ⟨y, m, nc, nr, nk, nl, f, i, rfl, rfl, h, KM.rf⟩
    · rw [if_neg q, if_neg q]
      rcases x_part h with ⟨y', m', nc', nr', nk', nl', f', j, h1, h2, h3, h4, h5⟩ | ⟨y', m', h1, h2, h3, h4⟩
      · rw [h1, h2, Option.bind_some, Option.bind_some, if_neg one_ne]
        rcases ih j (a + 1) n1 n2 nc' nr' nk' nl' f' y' m' h3 (by omega) (by omega) (by omega) (by omega) with ⟨y2, m2, c, r, k, l, g, j2, p1, p2, p3, p4⟩ | ⟨y2, m2, p1, p2, p3, p4⟩
        · exact Or.inl ⟨y2, m2, c, r, k, l, g, j2, p1, p2, p3, h5.tr p4⟩
        · exact Or.inr ⟨y2, m2, p1, p2, p3, h5.tr p4⟩
      · rw [h1, h2, Option.bind_some, Option.bind_some, if_pos zer_eq]
        obtain ⟨n2, rfl⟩ := fu_pos (show 0 < n2 by omega)
        refine Or.inr ⟨y', m', rfl, ?_, h3, h4⟩
        show b_X11_bank_31 _ (0 : Int32) m' = _
        unfold b_X11_bank_31
        rw [if_pos zer_eq]
end
