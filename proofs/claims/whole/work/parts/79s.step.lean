/-! A step of a plan is read. -/
def E7 (x1 x2 x3 x4 : Int32) (q21 : GW) : Option (Int32 × GW) := ((F_X11_decadeOrder x1 x3 q21).bind fun q22 => (if q22.1 = 0 then (some ((0 : Int32), q22.2)) else (if x4 = 0 then (f_X11_decadeStep_222 x1 x2 x3 q22.2) else (if gin (q22.2.1 0 22) 3 then (f_X11_decadeStep_222 x1 x2 x3 (gI (gI q22.2 8 (q22.2.1 0 22).toNatClampNeg x2) 0 22 ((q22.2.1 0 22) + (1 : Int32)))) else none))))
theorem m_147 {x1 x2 x4 : Int32} {r : Nat} (hr : r + 6 ≤ 2356) : ∀ (d j n : Nat) (w : GW), j + d = 6 → d < n → ∃ w', f_X11_decadeStep_147 n x1 x2 (nI r) x4 (nI j) w = (F_X11_ahead (gI w' 1 1823 ((w'.1 1 1823) + (1 : Int32)))).bind (E7 x1 x2 (nI r) x4) ∧ w'.2 = w.2 ∧ (∀ i, i ≠ 1 → w'.1 i = w.1 i) ∧ (∀ q, r + j ≤ q → q < r + 6 → w'.1 1 q = 0) ∧ (∀ q, q < r + j ∨ r + 6 ≤ q → w'.1 1 q = w.1 1 q) := by
  intro d
  induction d with
  | zero =>
    intro j n w hj hn
    obtain ⟨n, rfl⟩ := fu_pos hn
    refine ⟨w, ?_, rfl, fun _ _ => rfl, fun q h1 h2 => by omega, fun _ _ => rfl⟩
    show b_X11_decadeStep_147 _ x1 x2 (nI r) x4 (nI j) w = _
    unfold b_X11_decadeStep_147
    rw [if_pos (nI_leL (by show 6 ≤ j; omega) (by omega))]
    rfl
  | succ d ih =>
    intro j n w hj hn
    obtain ⟨n, rfl⟩ := fu_pos (show 0 < n by omega)
    obtain ⟨w', g1, g2, g3, g4, g5⟩ := ih (j + 1) n (gI w 1 (r + j) 0) (by omega) (by omega)
    refine ⟨w', ?_, g2, fun i hi => (g3 i hi).trans (funext fun q => if_neg (fun z => hi z.1)), fun q h1 h2 => ?_, fun q h1 => ?_⟩
    · show b_X11_decadeStep_147 _ x1 x2 (nI r) x4 (nI j) w = _
      unfold b_X11_decadeStep_147
      rw [if_neg (nI_geL (by show j < 6; omega) (by omega)), nI_add, if_pos (gin_nI (by omega) (by omega)), nI_clamp (by omega), nI_1]
      exact g1
    · by_cases e : q = r + j
      · subst e
        rw [g5 _ (by omega)]
        exact if_pos ⟨rfl, rfl⟩
      · exact g4 q (by omega) h2
    · rw [g5 q (by omega)]
      exact if_neg (fun z => by omega)
section
variable {w m : GW} {B : Nat → Nat} {n T i s M nk nc : Nat}
theorem m_row0 {x1 x4 s0 s1 : Int32} (hM : M < 60) (h7 : m.1 1 1823 = nI M) : ∃ M0, f_X11_decadeStep_133 x1 (nI M) (nI (1902 + 6 * M)) x4 s0 s1 m = (F_X11_ahead M0).bind (E7 x1 (nI M) (nI (1902 + 6 * M)) x4) ∧ M0.2 = m.2 ∧ (∀ i, i ≠ 0 → i ≠ 1 → M0.1 i = m.1 i) ∧ (∀ k, k ≠ 23 → M0.1 0 k = m.1 0 k) ∧ M0.1 0 23 = s1 + s0 ∧ M0.1 1 1823 = nI (M + 1) ∧ ra M0 (86 + 6 * M) = x1 ∧ (∀ k, k ≠ 7 → (k < 86 + 6 * M ∨ 86 + 6 * M + 6 ≤ k) → ra M0 k = ra m k) ∧ KM m M0 := by
  obtain ⟨w', g1, g2, g3, g4, g5⟩ := m_147 (x1 := x1) (x2 := nI M) (x4 := x4) (r := 1902 + 6 * M) (by omega) 5 1 FU (gI (gI m 0 23 (s1 + s0)) 1 (1902 + 6 * M) x1) (by omega) (by have := FU_big; omega)
  have h23 : w'.1 1 1823 = nI M := by
    rw [g5 1823 (by omega), gI_ne _ _ _ _ (by omega)]
    exact h7
  have hrow : ∀ q, q ≠ 1823 → (q < 1902 + 6 * M ∨ 1902 + 6 * M + 6 ≤ q) → (gI w' 1 1823 (nI (M + 1))).1 1 q = m.1 1 q := by
    intro q h1 h2
    rw [gI_ne _ _ _ _ (by omega), g5 q (by omega), gI_ne _ _ _ _ (by omega)]
    rfl
  refine ⟨gI w' 1 1823 (nI (M + 1)), ?_, g2, fun i h0 h1 => ?_, fun k hk => ?_, ?_, gI_same _ _ _ _, ?_, fun k h1 h2 => ?_, ⟨fun k hk => ?_, fun i h1 h2 _ _ => ?_, fun k hk => ?_, fun i _ => by show w'.2 i = _; rw [g2]; rfl, fun k _ => by show w'.2 2 k = _; rw [g2]; rfl⟩⟩
  · unfold f_X11_decadeStep_133
    rw [if_pos (gin_nI (by omega) (by omega)), nI_clamp (by omega), show f_X11_decadeStep_147 FU x1 (nI M) (nI (1902 + 6 * M)) x4 (1 : Int32) _ = _ from g1, h23, nI_1]
  · have e : (gI w' 1 1823 (nI (M + 1))).1 i = w'.1 i := funext fun q => if_neg (fun z => h1 z.1)
    rw [e, g3 i h1]
    have e2 : (gI (gI m 0 23 (s1 + s0)) 1 (1902 + 6 * M) x1).1 i = (gI m 0 23 (s1 + s0)).1 i := funext fun q => if_neg (fun z => h1 z.1)
    rw [e2, gI_c0 _ h0]
  · show w'.1 0 k = _
    rw [g3 0 (by omega)]
    exact gI_of _ _ hk
  · show w'.1 0 23 = _
    rw [g3 0 (by omega)]
    show (gI m 0 23 (s1 + s0)).1 0 23 = _
    exact gI_at _ _ _
  · show (gI w' 1 1823 (nI (M + 1))).1 1 (1816 + (86 + 6 * M)) = x1
    rw [gI_ne _ _ _ _ (by omega), g5 _ (by omega), show 1816 + (86 + 6 * M) = 1902 + 6 * M by omega, gI_same]
  · exact hrow _ (by omega) (by omega)
  · show w'.1 0 k = _
    rw [g3 0 (by omega)]
    exact gI_of _ _ (by omega)
  · have e : (gI w' 1 1823 (nI (M + 1))).1 i = w'.1 i := funext fun q => if_neg (fun z => h2 z.1)
    rw [e, g3 i h2]
    have e2 : (gI (gI m 0 23 (s1 + s0)) 1 (1902 + 6 * M) x1).1 i = (gI m 0 23 (s1 + s0)).1 i := funext fun q => if_neg (fun z => h2 z.1)
    rw [e2, gI_c0 _ h1]
  · exact hrow _ (by omega) (by omega)
theorem x_addStep {p : GW} {x : Int32} (h1 : p.1 0 1 = nI s) (hs : s < 30) : ∃ p', F_X5_addStep x p = some (nI s, p') ∧ p'.1 0 1 = nI (s + 1) ∧ p'.1 1 s = x ∧ (∀ i k, 1 ≤ i → i ≤ 7 → k ≠ s → p'.1 i k = p.1 i k) := by
  refine ⟨gI (gI (gI (gI (gI (gI (gI (gI p 1 s x) 2 s (-1 : Int32)) 3 s (-1 : Int32)) 4 s (0 : Int32)) 5 s (-1 : Int32)) 6 s (0 : Int32)) 7 s (-1 : Int32)) 0 1 (nI (s + 1)), ?_, gI_same _ _ _ _, ?_, fun i k hi1 hi7 hk => ?_⟩
  · unfold F_X5_addStep
    rw [h1, if_pos (nI_ltL hs (by omega)), if_pos (gin_nI hs (by omega)), nI_clamp (by omega), nI_1, show nI (s + 1) - (1 : Int32) = nI s from nI_pred s]
  · simp (disch := omega) only [gI_ne, gI_same]
  · simp (disch := omega) only [gI_ne]
theorem prow_op {p : GW} {a : Nat → Int32} (h : Prow p a nk nc M s) : ((p.1 1 s = (23 : Int32) ∨ p.1 1 s = (25 : Int32)) → isOp (a (86 + 6 * M))) ∧ (¬ (p.1 1 s = (23 : Int32) ∨ p.1 1 s = (25 : Int32)) → ¬ isOp (a (86 + 6 * M))) ∧ a (86 + 6 * M) ≠ (25 : Int32) := by
  unfold isOp
  rcases h with ⟨e1, e2, _⟩ | ⟨e1, e2, _⟩ | ⟨e1, e2, _⟩ | ⟨e1, e2, _⟩ | ⟨e1, e2, _⟩ | ⟨e1, e2, _⟩ | ⟨e1, e2⟩ | ⟨e1, e2⟩ | ⟨e1, e2⟩ | ⟨e1, e2, _⟩ | ⟨e1, _, _, ⟨_, e2⟩ | ⟨_, e2, _⟩ | ⟨_, e2, _⟩⟩
  all_goals (rw [e1, e2]; decide)
def DP (w m : GW) (B : Nat → Nat) (n T i M nc nk : Nat) : Prop :=
  (SY (gsub w e_shPR_shT_2) m B n T i ∧ NE (gsub w e_shPR_shT_2) m) ∧ BK w m nc nk ∧ Pr (gsub w e_shPR_shP_20) (ra m) nk nc M ∧ m.1 1 1823 = nI M ∧
  (w.1 20 1 = nI (rkN (rK (ra m)) M) ∧ m.1 0 23 = nI (rkN (rK (ra m)) M)) ∧
  (w.1 0 4 = nI (skN (rK (ra m)) M).length ∧ m.1 0 22 = nI (skN (rK (ra m)) M).length) ∧ StR (m.1 8) (w.1 1) (rkN (rK (ra m))) (skN (rK (ra m)) M)
def DO (m : GW) (B : Nat → Nat) (n T i nc nk : Nat) (o1 o2 : Option (Int32 × GW)) : Prop :=
  (∃ w' m' M' j, o1 = some (1, w') ∧ o2 = some (1, m') ∧ DP w' m' B n T j M' nc nk ∧ i < j ∧ KM m m') ∨
  (∃ w' m', o1 = some (0, w') ∧ o2 = some (0, m') ∧ FE (gsub w' e_shPR_shT_2) m' ∧ KM m m')
/-- the sign behind a step -/
theorem d_semi {w' m' : GW} {j : Nat} (h : SY (gsub w' e_shPR_shT_2) m' B n T j) (hn : NE (gsub w' e_shPR_shT_2) m') :
    (∃ u m3, F_X8_passSemicolon (gsub w' e_shPR_shT_2) = some (1, u) ∧ f_X11_decadeStep_279 m' = some (1, m3) ∧ SY (gsub (gput w' e_shPR_shT_2 u) e_shPR_shT_2) m3 B n T (j + 1) ∧ NE (gsub (gput w' e_shPR_shT_2 u) e_shPR_shT_2) m3 ∧ Fr m' m3) ∨
    (∃ u m3, F_X8_passSemicolon (gsub w' e_shPR_shT_2) = some (0, u) ∧ f_X11_decadeStep_279 m' = some (0, m3) ∧ FE (gsub (gput w' e_shPR_shT_2 u) e_shPR_shT_2) m3 ∧ KM m' m3) := by
  unfold f_X11_decadeStep_279
  rcases y_semi h hn with ⟨u, m3, h1, h2, h3, h4, h5⟩ | ⟨u, m3, h1, h2, h3, h4⟩
  · exact Or.inl ⟨u, m3, h1, by rw [h2]; rfl, h3, h4, h5⟩
  · exact Or.inr ⟨u, m3, h1, by rw [h2]; rfl, h3, h4.km⟩
def goodK (k : Nat) : Prop := k = 15 ∨ k = 16 ∨ k = 17 ∨ k = 18 ∨ k = 19 ∨ k = 20 ∨ k = 21 ∨ k = 22 ∨ k = 23 ∨ k = 25 ∨ k = 27
theorem goodK_k {k : Nat} (h : goodK k) : ¬ nI k < (15 : Int32) ∧ ¬ nI k = (24 : Int32) ∧ ¬ kmap (nI k) < (15 : Int32) ∧ ¬ (26 : Int32) < kmap (nI k) ∧ ¬ kmap (nI k) = (25 : Int32) := by
  rcases h with rfl | rfl | rfl | rfl | rfl | rfl | rfl | rfl | rfl | rfl | rfl <;> decide
theorem d_go {k : Nat} {o : Int32} (hk : goodK k) (ho : o = if k = 23 ∨ k = 25 then 1 else 0) (h : DP w m B n T i M nc nk) (hO : tO B (tp B i)) (hs : rkN (rK (ra m)) M < 30) (hL : (k = 23 ∨ k = 25) → (skN (rK (ra m)) M).length < 3) : DO m B n T i nc nk (f_X6_readStep_90 (nI k) o w) (f_X11_decadeStep_133 (kmap (nI k)) (nI M) (nI (1902 + 6 * M)) o (1 : Int32) (nI (rkN (rK (ra m)) M)) m) := by
  obtain ⟨⟨a1, a2⟩, a3, a4, a5, ⟨a6, a7⟩, ⟨a8, a9⟩, a10⟩ := h
  have hM : M < 60 := by have := a4.2.1; omega
  have hL3 := a4.2.2.1 M (Nat.le_refl M)
  generalize hsd : rkN (rK (ra m)) M = s at *
  obtain ⟨p', p1, p2, p3, p4⟩ := x_addStep (p := gsub w e_shPR_shP_20) (x := nI k) (s := s) a6 hs
  obtain ⟨M0, q1, q2, q3, q4, q5, q6, q7, q8, q9⟩ := m_row0 (x1 := kmap (nI k)) (x4 := o) (s0 := 1) (s1 := nI s) hM a5
  have key : ∃ W0, f_X6_readStep_90 (nI k) o w = f_X6_readStep_130 (nI k) (nI s) W0 ∧ (SY (gsub W0 e_shPR_shT_2) M0 B n T i ∧ NE (gsub W0 e_shPR_shT_2) M0) ∧ BK W0 M0 nc nk ∧ W0.1 21 s = nI k ∧ (∀ i k, 1 ≤ i → i ≤ 7 → k ≠ s → (gsub W0 e_shPR_shP_20).1 i k = (gsub w e_shPR_shP_20).1 i k) ∧ W0.1 20 1 = nI (s + 1) ∧
      ((k = 23 ∨ k = 25) → W0.1 0 4 = nI ((skN (rK (ra m)) M).length + 1) ∧ W0.1 1 (skN (rK (ra m)) M).length = nI s) ∧ (¬ (k = 23 ∨ k = 25) → W0.1 0 4 = nI (skN (rK (ra m)) M).length) ∧ (∀ d, d < (skN (rK (ra m)) M).length → W0.1 1 d = w.1 1 d) := by
    have s0 : SY (gsub w e_shPR_shT_2) M0 B n T i := a1.mv (fun k hk => q4 k (by omega)) (q3 7 (by omega) (by omega))
    have n0 : NE (gsub w e_shPR_shT_2) M0 := ⟨a2.1, a2.2.1, (q4 18 (by omega)).trans a2.2.2.1, (q4 17 (by omega)).trans a2.2.2.2⟩
    have b0 : BK w M0 nc nk := ⟨⟨a3.1.1, a3.1.2.1, (q9.2.2.1 2 (by omega)).trans a3.1.2.2⟩, ⟨a3.2.1.1, a3.2.1.2.1, (q9.2.2.1 0 (by omega)).trans a3.2.1.2.2⟩, fun k hk => by rw [q2]; exact a3.2.2 k hk⟩
    have pc : ∀ i k, 1 ≤ i → i ≤ 7 → k ≠ s → (gsub (gput w e_shPR_shP_20 p') e_shPR_shP_20).1 i k = (gsub w e_shPR_shP_20).1 i k := by
      intro i k h1 h2 h3
      rw [← p4 i k h1 h2 h3]
      rcases (show i = 1 ∨ i = 2 ∨ i = 3 ∨ i = 4 ∨ i = 5 ∨ i = 6 ∨ i = 7 by omega) with rfl | rfl | rfl | rfl | rfl | rfl | rfl <;> rfl
    unfold f_X6_readStep_90
    rw [p1, Option.bind_some]
    by_cases hop : k = 23 ∨ k = 25
    · have hL2 := hL hop
      rw [ho, if_pos hop, if_neg one_ne, a8, if_neg (nI_pos (by omega)), if_pos (gin_nI hL2 (by omega)), nI_clamp (by omega), nI_1]
      refine ⟨_, rfl, ⟨s0, n0⟩, b0, p3, fun i k h1 h2 h3 => ?_, p2, fun _ => ⟨gI_same _ _ _ _, ?_⟩, fun z => absurd hop z, fun d hd => ?_⟩
      · rw [← pc i k h1 h2 h3]
        rcases (show i = 1 ∨ i = 2 ∨ i = 3 ∨ i = 4 ∨ i = 5 ∨ i = 6 ∨ i = 7 by omega) with rfl | rfl | rfl | rfl | rfl | rfl | rfl <;> rfl
      · rw [gI_ne _ _ _ _ (by omega), gI_same]
      · rw [gI_ne _ _ _ _ (by omega), gI_ne _ _ _ _ (by omega)]
        rfl
    · rw [ho, if_neg hop, if_pos zer_eq]
      exact ⟨_, rfl, ⟨s0, n0⟩, b0, p3, pc, p2, fun z => absurd z hop, fun _ => a8, fun d hd => rfl⟩
  obtain ⟨W0, k1, ⟨k2, k3⟩, k4, k5, k6, k7, k8, k9, k10⟩ := key
  rw [k1, q1]
  unfold f_X6_readStep_130
  obtain ⟨u1, m1, g1, g2, g3, g4, g5, g6⟩ := y_adv k2 k3 hO
  have hst : F_X5_hasStep (gsub (gput W0 e_shPR_shT_2 u1) e_shPR_shP_20) (nI s) = some 1 := by
    unfold F_X5_hasStep
    rw [if_neg (nI_pos (by omega)), show (gsub (gput W0 e_shPR_shT_2 u1) e_shPR_shP_20).1 0 1 = nI (s + 1) from k7, if_neg (nI_ge (by omega) (by omega)), if_neg (nI_geL hs (by omega))]
  rw [g1, g2, Option.bind_some, Option.bind_some, hst, Option.bind_some, if_neg one_ne]
  unfold E7
  have s1 : SY (gsub (gput W0 e_shPR_shT_2 u1) e_shPR_shT_2) m1 B n T (i + 1) := g3
  have km1 : KM m m1 := q9.tr g6.km
  have b1 : BK (gput W0 e_shPR_shT_2 u1) m1 nc nk := k4.mv (s := s) (FW.txt u1) g6.km
  rcases ro_rest (M := M) (s := s) hk s1 g4 hs hM b1 (show (gput W0 e_shPR_shT_2 u1).1 21 s = nI k from k5) (by rw [ra_fr g6]; exact q7) with ⟨w', m', j, r1, r2, ⟨r3, r4⟩, r5, r6, r7, r8⟩ | ⟨w', m', r1, r2, r3, r4⟩
  · rw [r1, r2, Option.bind_some, Option.bind_some, if_neg one_ne, if_neg one_ne]
    have hgk := goodK_k hk
    have hrow : ∀ c, c ≠ 7 → (c < 86 + 6 * M ∨ 86 + 6 * M + 6 ≤ c) → c < 454 → ra m' c = ra m c := fun c h1 h2 h3 => by rw [r7.2.1 c h2 h3, ra_fr g6, q8 c h1 h2]
    have h8 : m'.1 8 = m.1 8 := by rw [r7.2.2.1, g6.2.1 8 (by omega), q3 8 (by omega) (by omega)]
    have h22 : m'.1 0 22 = nI (skN (rK (ra m)) M).length := by rw [r7.2.2.2 22 (by omega) (by omega), g6.2.2 22 (by omega), q4 22 (by omega)]; exact a9
    have h23 : m'.1 0 23 = nI (s + 1) := by rw [r7.2.2.2 23 (by omega) (by omega), g6.2.2 23 (by omega), q5, nI_1]
    have h1823 : m'.1 1 1823 = nI (M + 1) := by
      show ra m' 7 = _
      rw [r7.2.1 7 (by omega) (by omega), ra_fr g6]
      exact q6
    have w21 : w'.1 21 s = nI k := (r6.1 21 s (by omega) (by omega) (by omega)).trans k5
    have fin : ∀ (m2 : GW), (∀ k, k ≠ 22 → m2.1 0 k = m'.1 0 k) → (∀ i, i ≠ 0 → i ≠ 8 → m2.1 i = m'.1 i) → m2.2 = m'.2 → ((k = 23 ∨ k = 25) → m2.1 0 22 = nI ((skN (rK (ra m)) M).length + 1) ∧ m2.1 8 (skN (rK (ra m)) M).length = nI M) → (¬ (k = 23 ∨ k = 25) → m2.1 0 22 = nI (skN (rK (ra m)) M).length) → (∀ d, d < (skN (rK (ra m)) M).length → m2.1 8 d = m.1 8 d) → DO m B n T i nc nk ((F_X8_passSemicolon (gsub w' e_shPR_shT_2)).bind fun q23 => (if q23.1 = 0 then (some ((0 : Int32), (gput w' e_shPR_shT_2 q23.2))) else (some ((1 : Int32), (gput w' e_shPR_shT_2 q23.2))))) (f_X11_decadeStep_279 m2) := by
      intro m2 f1 f2 f3 f4 f5 f6
      have km2 : KM m m2 := (km1.tr r7.1).tr ⟨fun k hk => f1 k (by omega), fun i h1 _ _ h4 => f2 i h1 h4, fun k _ => by rw [f2 1 (by omega) (by omega)], fun i _ => by rw [f3], fun k _ => by rw [f3]⟩
      have s2 : SY (gsub w' e_shPR_shT_2) m2 B n T j := r3.mv (fun k hk => f1 k (by omega)) (f2 7 (by omega) (by omega))
      have n2 : NE (gsub w' e_shPR_shT_2) m2 := ⟨r4.1, r4.2.1, (f1 18 (by omega)).trans r4.2.2.1, (f1 17 (by omega)).trans r4.2.2.2⟩
      rcases d_semi s2 n2 with ⟨u, m3, e1, e2, e3, e4, e5⟩ | ⟨u, m3, e1, e2, e3, e4⟩
      · rw [e1, e2]
        have era : ra m3 = ra m' := by
          rw [ra_fr e5]
          unfold ra
          rw [f2 1 (by omega) (by omega)]
        have pw : Prow (gsub (gput w' e_shPR_shT_2 u) e_shPR_shP_20) (ra m3) nk nc M s := by rw [era]; exact r8
        have hpo := prow_op pw
        have e21 : (gsub (gput w' e_shPR_shT_2 u) e_shPR_shP_20).1 1 s = nI k := w21
        rw [e21] at hpo
        have hop1 : (k = 23 ∨ k = 25) → isOp (ra m3 (86 + 6 * M)) := fun z => hpo.1 (by rcases z with rfl | rfl; exact Or.inl rfl; exact Or.inr rfl)
        have hop2 : ¬ (k = 23 ∨ k = 25) → ¬ isOp (ra m3 (86 + 6 * M)) := fun z => hpo.2.1 (fun y => z (by
          have hk2 : k < 100 := by rcases hk with q | q | q | q | q | q | q | q | q | q | q <;> omega
          rcases y with y | y
          · exact Or.inl ((nI_eq (b := 23) (by omega) (by omega)).mp y)
          · exact Or.inr ((nI_eq (b := 25) (by omega) (by omega)).mp y)))
        have psh := Pr.push (p' := gsub (gput w' e_shPR_shT_2 u) e_shPR_shP_20) (a' := ra m3) a4 (s := s) hsd.symm hs (fun i c h1 h2 h3 h4 => by
          rw [← k6 i c h1 h2 h4]
          have e9 : (gput w' e_shPR_shT_2 u).1 (20 + i) c = W0.1 (20 + i) c := by
            rw [gpT1 (by omega), r6.1 (20 + i) c (by omega) (by omega) (by omega), gpT1 (by omega)]
          rcases (show i = 1 ∨ i = 2 ∨ i = 3 ∨ i = 4 ∨ i = 5 ∨ i = 6 ∨ i = 7 by omega) with rfl | rfl | rfl | rfl | rfl | rfl | rfl <;> exact e9) (fun c h1 h2 => by rw [era]; exact hrow c (by omega) (by omega) (by omega)) hpo.2.2 (fun z => by
            by_cases y : k = 23 ∨ k = 25
            · exact hL y
            · exact absurd z (hop2 y)) pw
        obtain ⟨v1, v2, v3, v4, v5⟩ := psh
        refine Or.inl ⟨gput w' e_shPR_shT_2 u, m3, M + 1, j + 1, rfl, rfl, ⟨⟨e3, e4⟩, ?_, v1, ?_, ⟨?_, ?_⟩, ?_, ?_⟩, by omega, km2.tr e5.km⟩
        · exact (k4.mv (s := s) ((FW.txt u1).tr (r6.tr (FW.txt u))) (((g6.km).tr r7.1).tr (KM.tr ⟨fun k hk => f1 k (by omega), fun i h1 _ _ h4 => f2 i h1 h4, fun k _ => by rw [f2 1 (by omega) (by omega)], fun i _ => by rw [f3], fun k _ => by rw [f3]⟩ e5.km)))
        · show ra m3 7 = _
          rw [era]; exact h1823
        · rw [v2, gpT1 (by omega), r6.1 20 1 (by omega) (by omega) (by omega), gpT1 (by omega)]
          exact k7
        · rw [v2, e5.2.2 23 (by omega), f1 23 (by omega)]; exact h23
        · rw [gpT1 (by omega), r6.1 0 4 (by omega) (by omega) (by omega), gpT1 (by omega), e5.2.2 22 (by omega)]
          by_cases y : k = 23 ∨ k = 25
          · rw [v3 (hop1 y)]
            exact ⟨(k8 y).1, (f4 y).1⟩
          · rw [v4 (hop2 y)]
            exact ⟨k9 y, f5 y⟩
        · have base : StR (m3.1 8) ((gput w' e_shPR_shT_2 u).1 1) (rkN (rK (ra m3))) (skN (rK (ra m)) M) := by
            refine StR.congr _ (fun d hd => ⟨?_, ?_⟩) (fun o hm => ?_) a10
            · rw [e5.2.1 8 (by omega), f6 d hd]
            · rw [gpT1 (by omega), r6.1 1 d (by omega) (by omega) (by omega), gpT1 (by omega)]
              exact k10 d hd
            · exact v5 o (by have := (skN_mem M o hm).1; omega)
          by_cases y : k = 23 ∨ k = 25
          · rw [v3 (hop1 y)]
            refine ⟨?_, ?_, base⟩
            · rw [e5.2.1 8 (by omega)]; exact (f4 y).2
            · rw [gpT1 (by omega), r6.1 1 _ (by omega) (by omega) (by omega), gpT1 (by omega), v5 M (Nat.le_refl M), hsd]
              exact (k8 y).2
          · rw [v4 (hop2 y)]
            exact base
      · rw [e1, e2]
        exact Or.inr ⟨_, m3, rfl, rfl, e3, km2.tr e4⟩
    have e222 : ∀ m2, f_X11_decadeStep_222 (kmap (nI k)) (nI M) (nI (1902 + 6 * M)) m2 = f_X11_decadeStep_279 m2 := fun m2 => by
      unfold f_X11_decadeStep_222
      rw [if_neg hgk.2.2.2.2]
    by_cases y : k = 23 ∨ k = 25
    · have hL2 := hL y
      rw [ho, if_pos y, if_neg one_ne, show (1, m').2.1 0 22 = nI (skN (rK (ra m)) M).length from h22, if_pos (gin_nI hL2 (by omega)), nI_clamp (by omega), nI_1, e222]
      refine fin _ (fun k hk => gI_of _ _ hk) (fun i h1 h2 => ?_) rfl (fun _ => ⟨gI_at _ _ _, ?_⟩) (fun z => absurd y z) (fun d hd => ?_)
      · rw [gI_c0 _ h1]
        exact funext fun q => if_neg (fun z => h2 z.1)
      · rw [gI_ne _ _ _ _ (by omega), gI_same]
      · rw [gI_ne _ _ _ _ (by omega), gI_ne _ _ _ _ (by omega), h8]
    · rw [ho, if_neg y, if_pos zer_eq, e222]
      exact fin m' (fun _ _ => rfl) (fun _ _ _ => rfl) rfl (fun z => absurd z y) (fun _ => h22) (fun d _ => by rw [h8])
  · rw [r1, r2]
    exact Or.inr ⟨_, m', rfl, rfl, r3, km1.tr r4⟩
end
