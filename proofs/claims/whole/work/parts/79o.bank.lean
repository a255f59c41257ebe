/-! The text of a bank. -/
def aPln : Nat → Int32 := fun k => if k = 7 then -1 else if k = 5 then 100 else if k = 4 then 4 else 0
theorem aPln_0 {k : Nat} (h4 : k ≠ 4) (h5 : k ≠ 5) (h7 : k ≠ 7) : aPln k = 0 := by
  unfold aPln
  rw [if_neg h7, if_neg h5, if_neg h4]
theorem m_plain_l {s : Nat} (hs : s ≤ 1816) : ∀ (j k n : Nat) (w : GW), k + j = 454 → j < n → ∃ w', f_X11_plain_2 n (nI s) (nI k) w = some (gI (gI (gI w' 1 (s + 4) 4) 1 (s + 5) 100) 1 (s + 7) (-1)) ∧ w'.2 = w.2 ∧ (∀ i, i ≠ 1 → w'.1 i = w.1 i) ∧ (∀ q, s + k ≤ q → q < s + 454 → w'.1 1 q = 0) ∧ (∀ q, q < s + k ∨ s + 454 ≤ q → w'.1 1 q = w.1 1 q) := by
  intro j
  induction j with
  | zero =>
    intro k n w hj hn
    obtain ⟨n, rfl⟩ := fu_pos hn
    refine ⟨w, ?_, rfl, fun _ _ => rfl, fun q h1 h2 => by omega, fun _ _ => rfl⟩
    show b_X11_plain_2 _ (nI s) (nI k) w = _
    unfold b_X11_plain_2
    rw [if_pos (nI_leL (by show 454 ≤ k; omega) (by omega)), nq_addL, nq_addL, nq_addL, if_pos (gin_nI (by show s + 4 < 2356; omega) (by omega)), if_pos (gin_nI (by show s + 5 < 2356; omega) (by omega)), if_pos (gin_nI (by show s + 7 < 2356; omega) (by omega)), nI_clamp (n := s + OfNat.ofNat 4) (by show s + 4 < _; omega), nI_clamp (n := s + OfNat.ofNat 5) (by show s + 5 < _; omega), nI_clamp (n := s + OfNat.ofNat 7) (by show s + 7 < _; omega)]
  | succ j ih =>
    intro k n w hj hn
    obtain ⟨n, rfl⟩ := fu_pos (show 0 < n by omega)
    obtain ⟨w', g1, g2, g3, g4, g5⟩ := ih (k + 1) n (gI w 1 (s + k) 0) (by omega) (by omega)
    refine ⟨w', ?_, g2, fun i hi => (g3 i hi).trans (funext fun q => if_neg (fun z => hi z.1)), fun q h1 h2 => ?_, fun q h1 => ?_⟩
    · show b_X11_plain_2 _ (nI s) (nI k) w = _
      unfold b_X11_plain_2
      rw [if_neg (nI_geL (by show k < 454; omega) (by omega)), nI_add, if_pos (gin_nI (by omega) (by omega)), nI_clamp (by omega), nI_1]
      exact g1
    · by_cases e : q = s + k
      · subst e
        rw [g5 _ (by omega)]
        exact if_pos ⟨rfl, rfl⟩
      · exact g4 q (by omega) h2
    · rw [g5 q (by omega)]
      exact if_neg (fun z => by omega)
theorem m_plain {s : Nat} (hs : s ≤ 1816) (w : GW) : ∃ w', F_X11_plain (nI s) w = some w' ∧ w'.2 = w.2 ∧ (∀ i, i ≠ 1 → w'.1 i = w.1 i) ∧ (∀ k, k < 454 → w'.1 1 (s + k) = aPln k) ∧ (∀ q, q < s ∨ s + 454 ≤ q → w'.1 1 q = w.1 1 q) := by
  obtain ⟨w', g1, g2, g3, g4, g5⟩ := m_plain_l hs 454 0 FU w (by omega) (by have := FU_big; omega)
  refine ⟨_, g1, g2, fun i hi => ?_, fun k hk => ?_, fun q hq => ?_⟩
  · rw [← g3 i hi]
    funext q
    show (if i = 1 ∧ q = s + 7 then (-1 : Int32) else if i = 1 ∧ q = s + 5 then 100 else if i = 1 ∧ q = s + 4 then 4 else w'.1 i q) = w'.1 i q
    rw [if_neg (fun z => hi z.1), if_neg (fun z => hi z.1), if_neg (fun z => hi z.1)]
  · show (if 1 = 1 ∧ s + k = s + 7 then (-1 : Int32) else if 1 = 1 ∧ s + k = s + 5 then 100 else if 1 = 1 ∧ s + k = s + 4 then 4 else w'.1 1 (s + k)) = if k = 7 then -1 else if k = 5 then 100 else if k = 4 then 4 else 0
    rw [g4 (s + k) (by omega) (by omega)]
    by_cases h7 : k = 7
    · rw [if_pos h7, if_pos ⟨rfl, by omega⟩]
    · rw [if_neg h7, if_neg (by omega)]
      by_cases h5 : k = 5
      · rw [if_pos h5, if_pos ⟨rfl, by omega⟩]
      · rw [if_neg h5, if_neg (by omega)]
        by_cases h4 : k = 4
        · rw [if_pos h4, if_pos ⟨rfl, by omega⟩]
        · rw [if_neg h4, if_neg (by omega)]
  · show (if 1 = 1 ∧ q = s + 7 then (-1 : Int32) else if 1 = 1 ∧ q = s + 5 then 100 else if 1 = 1 ∧ q = s + 4 then 4 else w'.1 1 q) = _
    rw [if_neg (by omega), if_neg (by omega), if_neg (by omega)]
    exact g5 q (by omega)
theorem m_59 : ∀ (j k n : Nat) (w : GW), k + j = 454 → j < n → ∃ w', f_X11_bank_59 n (nI k) w = f_X11_bank_90 FU (0 : Int32) w' ∧ w'.2 = w.2 ∧ (∀ i, i ≠ 1 → w'.1 i = w.1 i) ∧ (∀ q, k ≤ q → q < 454 → w'.1 1 q = w.1 1 (1816 + q)) ∧ (∀ q, q < k ∨ 454 ≤ q → w'.1 1 q = w.1 1 q) := by
  intro j
  induction j with
  | zero =>
    intro k n w hj hn
    obtain ⟨n, rfl⟩ := fu_pos hn
    refine ⟨w, ?_, rfl, fun _ _ => rfl, fun q h1 h2 => by omega, fun _ _ => rfl⟩
    show b_X11_bank_59 _ (nI k) w = _
    unfold b_X11_bank_59
    rw [if_pos (nI_leL (by show 454 ≤ k; omega) (by omega))]
  | succ j ih =>
    intro k n w hj hn
    obtain ⟨n, rfl⟩ := fu_pos (show 0 < n by omega)
    obtain ⟨w', g1, g2, g3, g4, g5⟩ := ih (k + 1) n (gI w 1 k (w.1 1 (1816 + k))) (by omega) (by omega)
    refine ⟨w', ?_, g2, fun i hi => (g3 i hi).trans (funext fun q => if_neg (fun z => hi z.1)), fun q h1 h2 => ?_, fun q h1 => ?_⟩
    · show b_X11_bank_59 _ (nI k) w = _
      unfold b_X11_bank_59
      rw [if_neg (nI_geL (by show k < 454; omega) (by omega)), nq_Ladd, if_pos (gin_nI (by show 1816 + k < 2356; omega) (by omega)), if_pos (gin_nI (by omega) (by omega)), nI_clamp (n := OfNat.ofNat 1816 + k) (by show 1816 + k < _; omega), nI_clamp (n := k) (by omega), nI_1]
      exact g1
    · by_cases e : q = k
      · subst e
        rw [g5 _ (by omega)]
        exact if_pos ⟨rfl, rfl⟩
      · rw [g4 q (by omega) h2]
        exact if_neg (fun z => by omega)
    · rw [g5 q (by omega)]
      exact if_neg (fun z => by omega)
theorem m_90 : ∀ (j k n : Nat) (w : GW), k + j = 6 → j < n → ∃ w', f_X11_bank_90 n (nI k) w = f_X11_bank_117 w' ∧ w'.1 = w.1 ∧ (∀ i, i ≠ 2 → w'.2 i = w.2 i) ∧ (∀ q, k ≤ q → q < 6 → w'.2 2 q = w.2 2 (24 + q)) ∧ (∀ q, q < k ∨ 6 ≤ q → w'.2 2 q = w.2 2 q) := by
  intro j
  induction j with
  | zero =>
    intro k n w hj hn
    obtain ⟨n, rfl⟩ := fu_pos hn
    refine ⟨w, ?_, rfl, fun _ _ => rfl, fun q h1 h2 => by omega, fun _ _ => rfl⟩
    show b_X11_bank_90 _ (nI k) w = _
    unfold b_X11_bank_90
    rw [if_pos (nI_leL (by show 6 ≤ k; omega) (by omega))]
  | succ j ih =>
    intro k n w hj hn
    obtain ⟨n, rfl⟩ := fu_pos (show 0 < n by omega)
    obtain ⟨w', g1, g2, g3, g4, g5⟩ := ih (k + 1) n (gL w 2 k (w.2 2 (24 + k))) (by omega) (by omega)
    refine ⟨w', ?_, g2, fun i hi => (g3 i hi).trans (funext fun q => if_neg (fun z => hi z.1)), fun q h1 h2 => ?_, fun q h1 => ?_⟩
    · show b_X11_bank_90 _ (nI k) w = _
      unfold b_X11_bank_90
      rw [if_neg (nI_geL (by show k < 6; omega) (by omega)), nq_Ladd, if_pos (gin_nI (by show 24 + k < 36; omega) (by omega)), if_pos (gin_nI (by omega) (by omega)), nI_clamp (n := OfNat.ofNat 24 + k) (by show 24 + k < _; omega), nI_clamp (n := k) (by omega), nI_1]
      exact g1
    · by_cases e : q = k
      · subst e
        rw [g5 _ (by omega)]
        exact if_pos ⟨rfl, rfl⟩
      · rw [g4 q (by omega) h2]
        exact if_neg (fun z => by omega)
    · rw [g5 q (by omega)]
      exact if_neg (fun z => by omega)
section
variable {x m : GW}
/-- what is not the bank stays related while texts are read -/
theorem rr_text {X M : GW} (h : RR x m) (hs : X.1 0 15 = M.1 0 2)
    (xst : X.2 0 16 = x.2 0 16 ∧ X.2 0 17 = x.2 0 17) (mst : M.2 0 = m.2 0)
    (xtr : X.1 7 = x.1 7 ∧ X.1 8 = x.1 8 ∧ X.2 3 = x.2 3 ∧ X.2 4 = x.2 4 ∧ X.2 5 = x.2 5 ∧ X.2 6 = x.2 6) (mtr : M.1 3 = m.1 3 ∧ M.1 4 = m.1 4 ∧ M.2 5 = m.2 5)
    (tp : X.1 9 0 = 0 ∧ M.1 0 10 = 0 ∧ X.1 9 4 = M.1 0 16 ∧ X.1 9 5 = M.1 0 17)
    (bk : Rbk X M) (mk : Rmk X m) (mmk : M.1 0 39 = m.1 0 39 ∧ (∀ k, 454 ≤ k → k < 1816 → M.1 1 k = m.1 1 k) ∧ (∀ k, 6 ≤ k → k < 24 → M.2 2 k = m.2 2 k))
    (lv : Rlv X m) (mlv : M.1 0 38 = m.1 0 38 ∧ M.1 18 = m.1 18) : RR X M := by
  obtain ⟨h1, h2, h3, h4, h5, h6⟩ := h
  refine ⟨⟨hs, ?_, ?_⟩, ?_, ⟨⟨0, by omega, tp.1, tp.2.1, fun k hk => absurd hk (by omega)⟩, tp.2.2.1, tp.2.2.2⟩, bk, mk.congr mmk.1 mmk.2.1 mmk.2.2, ?_⟩
  · rw [xst.1, mst]; exact h1.2.1
  · rw [xst.2, mst]; exact h1.2.2
  · unfold Rtr trT at h2 ⊢
    rw [xtr.1, xtr.2.1, xtr.2.2.1, xtr.2.2.2.1, xtr.2.2.2.2.1, xtr.2.2.2.2.2, mtr.1, mtr.2.1, mtr.2.2]
    exact h2
  · unfold Rlv at lv ⊢
    rw [mlv.1, mlv.2]
    exact lv
theorem SQ.row {wb wp : GW} {a a' : Nat → Int32} {nm nm' : Nat → Int64} (h : SQ wb wp a nm) (ha : ∀ k, k < 454 → a' k = a k) (hn : ∀ k, k < 6 → nm' k = nm k) : SQ wb wp a' nm' := h.congr (fun _ _ _ => rfl) (fun _ => rfl) (fun _ _ _ => rfl) ha hn
theorem s_bank (h : RR x m) (v : Int32) : Sm (F_X10_bank v x) (F_X11_bank v m) := by
  have hF := FU_big
  obtain ⟨h1, h2, h3, h4, h5, h6⟩ := id h
  obtain ⟨⟨n0, t1, t2, t3, t4⟩, t5, t6⟩ := id h3
  unfold F_X10_bank F_X11_bank
  by_cases hv : v < 0
  · unfold F_X11_begins f_X10_bank_15
    rw [if_pos hv, if_pos hv, Option.bind_some, if_pos zer_eq]
    exact h.st 1 |> fun q => ⟨(-1 : Int32), _, _, rfl, rfl, q⟩
  obtain ⟨n, hn, rfl⟩ := nI_of hv
  by_cases hle : n0 < n
  · unfold F_X11_begins f_X10_bank_15
    rw [if_neg hv, if_neg hv, t2, t3, if_neg (nI_ge hle (by omega)), if_pos (nI_lt hle (by omega)), Option.bind_some, if_pos zer_eq]
    exact h.st 1 |> fun q => ⟨(-1 : Int32), _, _, rfl, rfl, q⟩
  obtain ⟨u', m1, B, T, g1, g2, g3, g4, g5⟩ := y_begin (u := gsub x e_shX_shT_9) (m := m) (n := n) (n0 := n0) (hi := 900) (by omega) t1 (by omega) (by omega) t3 t4
  obtain ⟨m2, p1, p2, p3, p4, p5⟩ := m_plain (s := 1816) (by omega) m1
  rw [if_neg hv, t2, if_pos (nI_le (by omega) (by omega)), g1, Option.bind_some, show F_X11_begins (nI n) (900 : Int32) m = _ from g2, Option.bind_some, if_neg one_ne, show F_X11_plain (1816 : Int32) m1 = _ from p1, Option.bind_some]
  unfold F_X1_readParts
  have era : ∀ k, k < 454 → ra (gI m2 0 20 0) k = aPln k := fun k hk => p4 k hk
  have hbp : BP (gI (gI (gput (gsub (gput x e_shX_shT_9 u') e_shX_shBR_56) e_shBR_shB_6 (gI (gI (gI (gI (gI (gI (gI (gsub (gsub (gput x e_shX_shT_9 u') e_shX_shBR_56) e_shBR_shB_6) 0 0 (4 : Int32)) 0 1 (100 : Int32)) 0 2 (0 : Int32)) 0 3 (0 : Int32)) 0 4 (0 : Int32)) 0 5 (0 : Int32)) 0 6 (0 : Int32))) 0 2 (0 : Int32)) 0 3 (0 : Int32)) (gI m2 0 20 (0 : Int32)) B n T 0 0 0 0 0 0 := by
    refine ⟨⟨?_, g4.1, g4.2.1, ?_, ?_⟩, ⟨?_, ?_, ?_⟩, rfl, by omega, rfl, rfl⟩
    · have sm : SY u' (gI m2 0 20 (0 : Int32)) B n T 0 := g3.mv (fun k hk => by rw [gI_of _ _ (by omega), p3 0 (by omega)]) (by rw [gI_c0 _ (by omega), p3 7 (by omega)])
      exact sm
    · show m2.1 0 18 = 0
      rw [p3 0 (by omega)]; exact g4.2.2.1
    · show m2.1 0 17 = _
      rw [p3 0 (by omega)]; exact g4.2.2.2
    · refine ⟨⟨?_, ?_, ?_⟩, ⟨rfl, rfl, rfl, rfl⟩, fun k hk => absurd hk (by omega), fun k hk => absurd hk (by omega), fun k hk => absurd hk (by omega), fun k hk => absurd hk (by omega), fun k hk => absurd hk (by omega)⟩
      · rw [era 4 (by omega)]; rfl
      · rw [era 5 (by omega)]; rfl
      · rw [era 6 (by omega)]; rfl
    · refine ⟨⟨?_, ?_, ?_, ?_⟩, by omega, ⟨4, by omega, ?_⟩, ⟨100, by omega, ?_⟩, fun k hk => absurd hk (by omega), fun k hk => absurd hk (by omega), fun k hk => absurd hk (by omega), fun j k hj => absurd hj (by omega), fun k hk => absurd hk (by omega)⟩
      · rw [era 0 (by omega)]; rfl
      · rw [era 1 (by omega)]; rfl
      · rw [era 2 (by omega)]; rfl
      · rw [era 3 (by omega)]; rfl
      · rw [era 4 (by omega)]; rfl
      · rw [era 5 (by omega)]; rfl
    · refine ⟨?_, fun k _ hk => ⟨?_, ?_, ?_⟩⟩
      · rw [era 7 (by omega)]; rfl
      · rw [era _ (by omega)]; exact aPln_0 (by omega) (by omega) (by omega)
      · rw [era _ (by omega)]; exact aPln_0 (by omega) (by omega) (by omega)
      · rw [era _ (by omega)]; exact aPln_0 (by omega) (by omega) (by omega)
  have k2 : KM m (gI m2 0 20 (0 : Int32)) := g5.km.tr (KM.tr (m1 := m2) ⟨fun k hk => by rw [p3 0 (by omega)], fun i _ h2 _ _ => p3 i h2, fun k hk => p5 k (by omega), fun i _ => by rw [p2], fun k _ => by rw [p2]⟩ (KM.flag _))
  unfold F_X0_clear
  rw [Option.bind_some]
  have hT := hbp.1.1.2.1.1
  rcases x_parts T 0 0 FU FU 0 0 0 0 0 _ _ hbp (by omega) (by omega) (by omega) (by omega) with ⟨y', m3, nc, nr, nk, nl, f, j, q1, q2, q3, q4⟩ | ⟨y', m3, q1, q2, q3, q4⟩
  · rw [show f_X1_readParts_19 FU (0 : Int32) _ = _ from q1, show f_X11_bank_31 FU (1 : Int32) (gI m2 0 20 (0 : Int32)) = _ from q2, Option.bind_some, if_neg one_ne, x_copyB, Option.bind_some]
    unfold F_X5_clear f_X11_bank_50 F_X10_answer
    rw [Option.bind_some, Option.bind_some]
    obtain ⟨⟨a1, a2⟩, ⟨b1, b2, b3⟩, c1, c2, c3, c4⟩ := q3
    have hn2 := b2.cnt
    have kk := k2.tr q4
    rw [if_pos a2.2.2.1]
    obtain ⟨m4, r1, r2, r3, r4, r5⟩ := m_59 454 0 FU m3 (by omega) (by omega)
    obtain ⟨m5, w1, w2, w3, w4, w5⟩ := m_90 6 0 FU m4 (by omega) (by omega)
    rw [show f_X11_bank_59 FU (0 : Int32) m3 = _ from r1, show f_X11_bank_90 FU (0 : Int32) m4 = _ from w1]
    unfold f_X11_bank_117 F_X11_taken F_X11_gives
    have m51 : ∀ i, i ≠ 1 → m5.1 i = m3.1 i := fun i hi => by rw [w2, r3 i hi]
    have m511 : ∀ k, k < 454 → m5.1 1 k = ra m3 k := fun k hk => by rw [w2, r4 k (by omega) hk]; rfl
    have m512 : ∀ k, 454 ≤ k → m5.1 1 k = m3.1 1 k := fun k hk => by rw [w2, r5 k (by omega)]
    have m52 : ∀ k, k < 6 → m5.2 2 k = rb m3 k := fun k hk => by rw [w4 k (by omega) hk, r2]; rfl
    have m522 : ∀ k, 6 ≤ k → m5.2 2 k = m3.2 2 k := fun k hk => by rw [w5 k (by omega), r2]
    have e18 : m5.1 0 18 = 0 := by rw [m51 0 (by omega)]; exact a2.2.2.1
    have e2 : m5.1 1 2 = nI nk := by rw [m511 2 (by omega)]; exact b2.n2
    rw [e18, e2, if_pos (by decide), Option.bind_some]
    have bqc : Bq (cpB (gsub (gput (gput x e_shX_shT_9 u') e_shX_shBR_56 y') e_shX_shBB_14_27)) (ra m3) (rb m3) nc nr nk nl := Bq.copy (by exact b1) hn2
    refine ⟨nI nk, _, gI (gI m5 0 16 0) 0 2 0, ?_, rfl, rr_text h (X := gI (gput (gput (gput (gput x e_shX_shT_9 u') e_shX_shBR_56 y') e_shX_shBB_14_27 (cpB (gsub (gput (gput x e_shX_shT_9 u') e_shX_shBR_56 y') e_shX_shBB_14_27))) e_shX_shP_40 (gI (gI (gsub (gput (gput (gput x e_shX_shT_9 u') e_shX_shBR_56 y') e_shX_shBB_14_27 (cpB (gsub (gput (gput x e_shX_shT_9 u') e_shX_shBR_56 y') e_shX_shBB_14_27))) e_shX_shP_40) 0 0 (0 : Int32)) 0 1 (0 : Int32))) 0 15 0) (M := gI (gI m5 0 16 0) 0 2 0) rfl ⟨rfl, rfl⟩ ?_ ⟨rfl, rfl, rfl, rfl, rfl, rfl⟩ ⟨?_, ?_, ?_⟩ ⟨?_, ?_, ?_, ?_⟩ ?_ h5 ⟨?_, fun k z1 z2 => ?_, fun k z1 z2 => ?_⟩ h6 ⟨?_, ?_⟩⟩
    · rw [show (cpB (gsub (gput (gput x e_shX_shT_9 u') e_shX_shBR_56 y') e_shX_shBB_14_27)).1 0 5 = nI nk from bqc.n2]
    · show m5.2 0 = m.2 0
      rw [w3 0 (by omega), r2]; exact kk.2.2.2.1 0 (by omega)
    · rw [gI_c0 _ (by omega), gI_c0 _ (by omega), m51 3 (by omega)]; exact kk.2.1 3 (by omega) (by omega) (by omega) (by omega)
    · rw [gI_c0 _ (by omega), gI_c0 _ (by omega), m51 4 (by omega)]; exact kk.2.1 4 (by omega) (by omega) (by omega) (by omega)
    · show m5.2 5 = m.2 5
      rw [w3 5 (by omega), r2]; exact kk.2.2.2.1 5 (by omega)
    · exact a1.2.2.2.2.1
    · show m5.1 0 10 = 0
      rw [m51 0 (by omega)]; exact a1.2.2.2.2.2
    · exact a2.1
    · show y'.1 1 5 = m5.1 0 17
      rw [m51 0 (by omega), a2.2.2.2]; exact a2.2.1
    · refine ⟨nc, nr, nk, nl, ?_, b2.congr (fun k hk => m511 k (by omega)), Or.inl ⟨rfl, ?_⟩⟩
      · have bq5 : Bq (cpB (gsub (gput (gput x e_shX_shT_9 u') e_shX_shBR_56 y') e_shX_shBB_14_27)) (m5.1 1) (rb m3) nc nr nk nl := bqc.congr hn2 (fun _ _ _ => rfl) (fun _ => rfl) (fun k hk => m511 k (by omega))
        have bq6 : Bq (cpB (gsub (gput (gput x e_shX_shT_9 u') e_shX_shBR_56 y') e_shX_shBB_14_27)) (m5.1 1) (m5.2 2) nc nr nk nl := ⟨bq5.1, bq5.2.1, bq5.2.2.1, bq5.2.2.2.1, fun k hk => by rw [m52 k (by omega)]; exact bq5.name hk, bq5.2.2.2.2.2⟩
        exact bq6
      · show m5.1 1 7 = -1
        rw [m511 7 (by omega)]; exact b3.1
    · show m5.1 0 39 = _
      rw [m51 0 (by omega)]; exact kk.1 39 (by omega)
    · show m5.1 1 k = _
      rw [m512 k z1]; exact kk.2.2.1 k (by omega)
    · show m5.2 2 k = _
      rw [m522 k z1]; exact kk.2.2.2.2 k (by omega)
    · show m5.1 0 38 = _
      rw [m51 0 (by omega)]; exact kk.1 38 (by omega)
    · rw [gI_c0 _ (by omega), gI_c0 _ (by omega), m51 18 (by omega)]; exact kk.2.1 18 (by omega) (by omega) (by omega) (by omega)
  · rw [show f_X1_readParts_19 FU (0 : Int32) _ = _ from q1, show f_X11_bank_31 FU (1 : Int32) (gI m2 0 20 (0 : Int32)) = _ from q2, Option.bind_some, if_pos zer_eq]
    have kk := k2.tr q4
    obtain ⟨a1, a2, ⟨k, a3, a4, a5, a6⟩, a7⟩ := q3
    unfold f_X11_bank_50 f_X11_bank_117 F_X11_taken F_X11_refuse F_X10_refuse
    rw [a6, if_neg (nI_nz (by omega) (by omega)), if_neg (nI_nlz (by omega) (by omega)), Option.bind_some, Option.bind_some]
    refine ⟨(-1 : Int32), _, _, rfl, rfl, rr_text h (X := gI (gput (gput x e_shX_shT_9 u') e_shX_shBR_56 y') 0 15 9) (M := gI (gI m3 0 16 (nI k)) 0 2 9) rfl ⟨rfl, rfl⟩ (kk.2.2.2.1 0 (by omega)) ⟨rfl, rfl, rfl, rfl, rfl, rfl⟩ ⟨?_, ?_, kk.2.2.2.1 5 (by omega)⟩ ⟨a1, a2, a5, a7⟩ ?_ h5 ⟨kk.1 39 (by omega), fun k z1 z2 => kk.2.2.1 k (by omega), fun k z1 z2 => kk.2.2.2.2 k (by omega)⟩ h6 ⟨kk.1 38 (by omega), ?_⟩⟩
    · rw [gI_c0 _ (by omega), gI_c0 _ (by omega)]; exact kk.2.1 3 (by omega) (by omega) (by omega) (by omega)
    · rw [gI_c0 _ (by omega), gI_c0 _ (by omega)]; exact kk.2.1 4 (by omega) (by omega) (by omega) (by omega)
    · have h4' : SQ (gsub (gI (gput (gput x e_shX_shT_9 u') e_shX_shBR_56 y') 0 15 9) e_shX_shB_14) (gsub (gI (gput (gput x e_shX_shT_9 u') e_shX_shBR_56 y') 0 15 9) e_shX_shP_40) (m.1 1) (m.2 2) := h4
      exact h4'.row (fun k hk => kk.2.2.1 k (by omega)) (fun k hk => kk.2.2.2.2 k (by omega))
    · rw [gI_c0 _ (by omega), gI_c0 _ (by omega)]; exact kk.2.1 18 (by omega) (by omega) (by omega) (by omega)
end
