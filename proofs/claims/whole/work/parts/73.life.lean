/-! The loop of a life. -/
section
variable {p m w : GW} {A : Nat → Int32} {nm : Nat → Int64} {nc nr nk M : Nat} {y0 p0 : Int32} {a c16 c17 : Nat → Int32} {S N : Nat} {n : Int32}
theorem LQ.wait (h : LQ p A nm nc nr nk y0 p0 w a c17 S N) : LQ p A nm nc nr nk y0 p0 (gI w 0 1 (w.1 0 1 + 1)) a (upd c17 0 (c17 0 + 1)) S N := by
  obtain ⟨q1, q3, q4, q5, q6, q7, q8, q9, q10, q11, q12, q13, q14⟩ := h
  refine ⟨q1, fun i hi k => ?_, q4, q5, q6, q7, q8, ?_, ?_, q11, ?_, ?_, ?_⟩
  · rw [gI_ne _ _ _ _ (by omega)]
    exact q3 i hi k
  · rw [pk_us, ← q9]; rfl
  · rw [pk_un (by omega)]; exact q10
  · rw [pk_un (by omega)]; exact q12
  · rw [pk_un (by omega)]; exact q13
  · rw [pk_un (by omega)]; exact q14
theorem PS.plain {i : Nat} (h : PS w A c16 i) (h1 : ¬ rK A i = (25 : Int32)) (h2 : ¬ isOp (rK A i)) : PS w A c16 (i + 1) := by
  obtain ⟨d, h3, h4⟩ := h
  exact ⟨d, h3, by rw [skN_pl h1 h2]; exact h4⟩
theorem PS.cond {i : Nat} (h : PS w A c16 i) (h2 : isOp (rK A i)) (h24 : ¬ rK A i = (24 : Int32)) : PS w A c16 (i + 1) := by
  obtain ⟨d, h3, h4⟩ := h
  refine ⟨d, h3, ?_⟩
  rw [skN_op h2]
  show if rK A i = (24 : Int32) then _ else _
  rw [if_neg h24]
  exact h4
theorem PS.skip {i e : Nat} (h : PS w A c16 i) (h25 : rK A e = (25 : Int32)) {l : List Nat} (hs : skN (rK A) e = i :: l) : PS w A c16 (e + 1) := by
  obtain ⟨d, h3, h4⟩ := h
  refine ⟨d, h3, ?_⟩
  have h5 := skN_top e e (Nat.le_refl e) hs
  rw [skN_end h25, hs]
  show StN _ _ _ _ l d
  rw [← h5.1]
  exact h4
theorem x_enter (hP : Pr p A nk nc M) (hM : skN (rK A) M = []) (hN : p.1 0 1 = nI (rkN (rK A) M)) (h : LQ p A nm nc nr nk y0 p0 w a c17 S N) {i : Nat} (hi : i < M) (h24 : rK A i = (24 : Int32)) (hs : PS w A c16 i) {y : Nat} (hy : 1 ≤ y ∧ y ≤ 99) (h4 : p.1 4 (rkN (rK A) i) = nI y) : ∃ w', F_X3_enterLoop (nI (rkN (rK A) i)) w = some w' ∧ LQ p A nm nc nr nk y0 p0 w' a c17 S N ∧ PS w' A (upd c16 i (nI y - 1)) (i + 1) := by
  obtain ⟨d, h1, h2⟩ := hs
  have hop : isOp (rK A i) := Or.inl h24
  have hd := StN_len _ h2
  have hl3 := hP.2.2.1 (i + 1) hi
  rw [skN_op hop] at hl3
  have hl4 : (skN (rK A) i).length + 1 ≤ 3 := hl3
  have h30 := hP.1
  have hlt := rk_lt (op_n25 (A := A) (o := i) hop) hi
  obtain ⟨e, l, e1, e2, e3, e4, e5, e6⟩ := hP.op hM hi hop
  have hni : ∀ q, q ∈ skN (rK A) i → q ≠ i := fun q hq z => by
    have := skN_lt i hq
    omega
  have heM := rkN_mono (rK A) (show e ≤ M by omega)
  have ey : nI y - (1 : Int32) = nI (y - 1) := nI_sub (a := y) (b := 1) (by omega)
  unfold F_X3_enterLoop
  rw [h1, if_neg (nI_pos (by omega)), if_neg (nI_geL (by show d < 3; omega) (by omega)), x_close h hN h30 (by omega), Option.bind_some, e6, nI_1]
  by_cases hem : rK A (i + 1) = (25 : Int32)
  · have hso : skN (rK A) (i + 1) = i :: skN (rK A) i := skN_op hop
    have hie : e = i + 1 := by
      have := skN_in hso hem (i := e) (by rw [e4]; exact List.mem_cons_self)
      omega
    rw [hie, rkN_row (op_n25 (A := A) (o := i) hop), if_pos (nI_le (Nat.le_refl _) (by omega))]
    refine ⟨w, rfl, h, d, h1, ?_⟩
    rw [skN_op hop]
    show if rK A i = (24 : Int32) then _ else _
    rw [if_pos h24]
    refine ⟨y - 1, by omega, ?_, ?_⟩
    · rw [pk_us, ey]
    · rw [if_pos hem]
      exact StN_congr _ h2 (fun q hq => pk_un (hni q hq)) (fun _ _ => ⟨rfl, rfl⟩)
  · have hee : i + 1 < e := by
      rcases Nat.lt_or_ge (i + 1) e with q | q
      · exact q
      · exact absurd (show rK A (i + 1) = 25 by rw [show i + 1 = e by omega]; exact e3) hem
    have hr2 := rk_lt hem hee
    rw [rkN_row (op_n25 (A := A) (o := i) hop)] at hr2
    rw [if_neg (nI_ge (by omega) (by omega)), if_pos (gin_nI (by omega) (by omega)), if_pos (gin_nI (by omega) (by omega)), nI_clamp (n := d) (by omega), nI_clamp (n := rkN (rK A) i) (by omega), nI_1, show w.1 20 (rkN (rK A) i) = nI y from (h.2.1 4 (by omega) _).trans h4, ey]
    refine ⟨_, rfl, ((h.c1 _ _).c2 _ _).c7 _, d + 1, rfl, ?_⟩
    rw [skN_op hop]
    show if rK A i = (24 : Int32) then _ else _
    rw [if_pos h24]
    refine ⟨y - 1, by omega, pk_us, ?_⟩
    rw [if_neg hem]
    refine ⟨d, rfl, ?_, ?_, StN_congr _ h2 (fun q hq => pk_un (hni q hq)) (fun k hk => ⟨?_, ?_⟩)⟩
    · show (if 1 = 1 ∧ d = d then nI (rkN (rK A) i) else _) = _
      rw [if_pos ⟨rfl, rfl⟩]
    · show (if 2 = 2 ∧ d = d then nI (y - 1) else _) = _
      rw [if_pos ⟨rfl, rfl⟩]
    · show (if 1 = 1 ∧ k = d then nI (rkN (rK A) i) else w.1 1 k) = _
      rw [if_neg (by omega)]
    · show (if 2 = 2 ∧ k = d then nI (y - 1) else w.1 2 k) = _
      rw [if_neg (by omega)]
theorem l_lives (hP : Pr p A nk nc M) (hM : skN (rK A) M = []) (hN : p.1 0 1 = nI (rkN (rK A) M)) (h7 : A 7 = nI M) (hm : m.2 2 = nm) : ∀ K N, N + K = 300 → ∀ i w a c16 c17 S x7 n1 n2, LQ p A nm nc nr nk y0 p0 w a c17 S N → PS w A c16 i → i ≤ M → (i = M ∨ ¬ rK A i = (25 : Int32)) → x7 + 62 * K + 3 < 1000000 → 62 * K + 2 < n1 →
    ∃ wF a' c16' c17' s' N', f_X3_goThrough_23 n1 y0 p0 (nI (rkN (rK A) i)) (nI x7) w = some wF ∧ f_X11_lives_32 (n2 + K + 1) (nI i) (mZ m a c16 c17 (nI S) (nI N)) = some (mZ m a' c16' c17' s' (nI N')) ∧ FN p A nm nc nr nk wF a' c17' N' := by
  have hMb := hP.bound
  have h30 := hP.1
  intro K
  induction K with
  | zero =>
    intro N hNK i w a c16 c17 S x7 n1 n2 h hs hi hi2 hx hn
    have hov := x_over_no hP hM hN h hs hi hi2
    obtain ⟨n1, rfl⟩ := fu_pos (show 1 < n1 by omega)
    obtain ⟨n1, rfl⟩ := fu_pos (show 0 < n1 by omega)
    have hri := rkN_mono (rK A) hi
    rw [go_step (by omega) hov (by omega)]
    by_cases e : i = M
    · subst e
      obtain ⟨wF, q1, q2⟩ := x_fin h (by omega) (v := 0) (Or.inl rfl)
      rw [gI_id w h.2.2.2.2.2.2.2.2.2.1] at q1
      refine ⟨wF, a, c16, upd c17 4 0, nI S, N, ?_, ?_, q2⟩
      · rw [x_step_none h hN h30, Option.bind_some]
        show f_X3_goThrough_23 (n1 + 1) y0 p0 (-1 : Int32) _ w = _
        rw [go_end]
        exact q1
      · show b_X11_lives_32 _ (nI i) _ = _
        unfold b_X11_lives_32
        rw [Z_1, h.2.2.2.1, h7, if_pos (nI_le (by omega) (by omega)), show upd c17 4 0 = c17 by rw [← h.2.2.2.2.2.2.2.2.2.2.1]; exact upd_same _ _]
    · have hlt := rk_lt (A := A) (o := i) (e := M) (by rcases hi2 with q | q; exact absurd q e; exact q) (by omega)
      obtain ⟨wF, q1, q2⟩ := x_fin h (by omega) (v := 1) (Or.inr rfl)
      refine ⟨wF, a, c16, upd c17 4 1, nI S, N, ?_, ?_, q2⟩
      · rw [x_step_long h hN h30 (by omega) (by omega), Option.bind_some]
        show f_X3_goThrough_23 (n1 + 1) y0 p0 (-1 : Int32) _ _ = _
        rw [go_end]
        exact q1
      · show b_X11_lives_32 _ (nI i) _ = _
        unfold b_X11_lives_32
        rw [Z_1, Z_34, h.2.2.2.1, h7, if_neg (nI_ge (by omega) (by omega)), if_pos (by rw [show N = 300 by omega]; rfl), gI_Z17]
  | succ K ih =>
    intro N hNK i w a c16 c17 S x7 n1 n2 h hs hi hi2 hx hn
    have hov := x_over_no hP hM hN h hs hi hi2
    obtain ⟨n1, rfl⟩ := fu_pos (show 1 < n1 by omega)
    have hri := rkN_mono (rK A) hi
    rw [go_step (by omega) hov (by omega)]
    by_cases e : i = M
    · subst e
      obtain ⟨n1, rfl⟩ := fu_pos (show 0 < n1 by omega)
      obtain ⟨wF, q1, q2⟩ := x_fin h (by omega) (v := 0) (Or.inl rfl)
      rw [gI_id w h.2.2.2.2.2.2.2.2.2.1] at q1
      refine ⟨wF, a, c16, upd c17 4 0, nI S, N, ?_, ?_, q2⟩
      · rw [x_step_none h hN h30, Option.bind_some]
        show f_X3_goThrough_23 (n1 + 1) y0 p0 (-1 : Int32) _ w = _
        rw [go_end]
        exact q1
      · show b_X11_lives_32 _ (nI i) _ = _
        unfold b_X11_lives_32
        rw [Z_1, h.2.2.2.1, h7, if_pos (nI_le (by omega) (by omega)), show upd c17 4 0 = c17 by rw [← h.2.2.2.2.2.2.2.2.2.2.1]; exact upd_same _ _]
    have hn25 : ¬ rK A i = (25 : Int32) := by
      rcases hi2 with q | q
      · exact absurd q e
      · exact q
    have hiM : i < M := by omega
    have hlt := rk_lt hn25 hiM
    have next : ∀ j w' a' c16' c17' S', LQ p A nm nc nr nk y0 p0 w' a' c17' S' (N + 1) → PS w' A c16' j → j ≤ M → ∃ wF a2 c162 c172 s2 N2, f_X3_goThrough_23 n1 y0 p0 (nI (rkN (rK A) j)) (nI (x7 + 1)) w' = some wF ∧ ((F_X11_behindEnds (nI j) (mZ m a' c16' c17' (nI S') (nI (N + 1)))).bind fun q19 => f_X11_lives_32 (n2 + K + 1) q19.1 q19.2) = some (mZ m a2 c162 c172 s2 (nI N2)) ∧ FN p A nm nc nr nk wF a2 c172 N2 := by
      intro j w' a' c16' c17' S' h' hs' hj
      obtain ⟨i', t, w2, c2, g1, g2, g3, g4, g5, g6, g7⟩ := l_ends (m := m) (n := nI (N + 1)) hP hM hN h7 60 j w' c16' (by omega) hj h' hs'
      have g8 := g4 (FU - 6001)
      rw [show FU - 6001 + 100 * 60 + 1 = FU by have := FU_big; omega] at g8
      obtain ⟨wF, a2, c162, c172, s2, N2, k1, k2, k3⟩ := ih (N + 1) (by omega) i' w2 a' c2 c17' S' (x7 + 1 + t) (n1 - t) n2 g5 g6 g1 g2 (by omega) (by omega)
      refine ⟨wF, a2, c162, c172, s2, N2, ?_, ?_, k3⟩
      · rw [show n1 = (n1 - t) + t by omega, g7 y0 p0 (n1 - t) (x7 + 1) (by omega)]
        exact k1
      · unfold F_X11_behindEnds
        rw [g8, Option.bind_some]
        exact k2
    have hstep := h.step (N + 1)
    have hsS : PS (gI w 0 0 (nI (N + 1))) A c16 i := hs.sf ⟨rfl, rfl, rfl⟩
    have hrow := d_row (m := m) (c16 := c16) (n := nI (N + 1)) hstep hm (hP.2.2.2.2.1 i hiM hn25) (by omega) (by omega)
    rw [show n2 + (K + 1) + 1 = (n2 + K + 1) + 1 by omega]
    show ∃ wF a' c16' c17' s' N', _ ∧ b_X11_lives_32 (f_X11_lives_32 (n2 + K + 1)) (nI i) (mZ m a c16 c17 (nI S) (nI N)) = _ ∧ _
    rw [x_step_go h hN h30 (by omega) (by omega)]
    rcases hrow with ⟨r1, r2⟩ | ⟨r1, r2, ⟨y, y1, y2, y3, y4⟩, r3⟩ | ⟨r1, r2, ⟨r, r3, r4, r5⟩, r6⟩ | ⟨r1, r2, r3⟩ | ⟨r1, r2, r3, r4, r5, r6, r7, r8, r9⟩
    · obtain ⟨n1, rfl⟩ := fu_pos (show 0 < n1 by omega)
      obtain ⟨wF, q1, q2⟩ := x_fin hstep (by omega) (v := 0) (Or.inl rfl)
      rw [gI_id (gI w 0 0 (nI (N + 1))) hstep.2.2.2.2.2.2.2.2.2.1] at q1
      refine ⟨wF, a, c16, upd c17 4 0, nI S, N + 1, ?_, ?_, q2⟩
      · rw [if_pos r1, Option.bind_some]
        show f_X3_goThrough_23 (n1 + 1) y0 p0 (-1 : Int32) _ _ = _
        rw [go_end]
        exact q1
      · unfold b_X11_lives_32
        rw [Z_1, Z_34, h.2.2.2.1, h7, if_neg (nI_ge hiM (by omega)), if_neg (nI_neL (by show N ≠ 300; omega) (by omega) (by omega)), row_ix, if_pos (gin_nI (by omega) (by omega)), nI_clamp (n := 86 + 6 * i) (by omega), h.2.2.1 _ (by omega), if_pos r2, gI_Z34, show nI N + (1 : Int32) = nI (N + 1) from nq_addL _ _, show upd c17 4 0 = c17 by rw [← h.2.2.2.2.2.2.2.2.2.2.1]; exact upd_same _ _]
    · obtain ⟨w', e1, e2, e3⟩ := x_enter hP hM hN hstep hiM r2 hsS ⟨y1, y2⟩ y3
      rw [r1, if_neg (by decide), if_neg (by decide), if_pos rfl, e1, Option.bind_some, Option.bind_some, ← rkN_row hn25]
      obtain ⟨wF, a2, c162, c172, s2, N2, k1, k2, k3⟩ := next (i + 1) w' a (upd c16 i (nI y - 1)) c17 S e2 e3 (by omega)
      refine ⟨wF, a2, c162, c172, s2, N2, k1, ?_, k3⟩
      rw [m_live_go h7 h.2.2.1 h.2.2.2.1 (by omega) hiM (by omega) (by rw [r2]; decide), r3, Option.bind_some]
      dsimp only
      rw [if_neg one_ne, m_111L h.2.2.1 (by omega) r2, Int32.add_zero, upd_same, y4, m_140 h.2.2.1 (by omega) (by rw [r2]; decide)]
      exact k2
    · have hop : isOp (rK A i) := Or.inr r2
      have hge : ¬ A (86 + 6 * i) < (2300 : Int32) := by rcases r2 with q | q | q <;> rw [q] <;> decide
      have h24 : ¬ A (86 + 6 * i) = (24 : Int32) := by rcases r2 with q | q | q <;> rw [q] <;> decide
      have h26 : ¬ A (86 + 6 * i) = (26 : Int32) := by rcases r2 with q | q | q <;> rw [q] <;> decide
      obtain ⟨e0, l0, z1, z2, z3, z4, z5, z6⟩ := hP.op hM (o := i) hiM hop
      rw [r1, if_neg (by decide), if_pos rfl, r4, Option.bind_some]
      have hmod : ∀ k32, b_X11_lives_32 k32 (nI i) (mZ m a c16 c17 (nI S) (nI N)) = (F_X11_behindEnds (nI (if r = 0 then e0 + 1 else i + 1)) (mZ m a c16 c17 (nI S) (nI (N + 1)))).bind fun q19 => k32 q19.1 q19.2 := by
        intro k32
        rw [m_live_go h7 h.2.2.1 h.2.2.2.1 (by omega) hiM (by omega) h26, r6, Option.bind_some]
        dsimp only
        rw [if_neg one_ne, m_111 h.2.2.1 (by omega) h24, Int32.add_zero, upd_same, m_140I h.2.2.1 (by omega) hge r3 r5 z5]
      rw [hmod]
      rcases r3 with q | q
      · subst q
        rw [if_pos zer_eq, if_pos zer_eq, Option.bind_some, z6]
        obtain ⟨wF, a2, c162, c172, s2, N2, k1, k2, k3⟩ := next (e0 + 1) _ a c16 c17 S hstep (hsS.skip z3 z4) (by omega)
        rw [rkN_end (show rK A e0 = (25 : Int32) from z3)] at k1
        exact ⟨wF, a2, c162, c172, s2, N2, k1, k2, k3⟩
      · subst q
        rw [if_neg one_ne, if_neg one_ne, Option.bind_some, ← rkN_row hn25]
        obtain ⟨wF, a2, c162, c172, s2, N2, k1, k2, k3⟩ := next (i + 1) _ a c16 c17 S hstep (hsS.cond hop h24) (by omega)
        exact ⟨wF, a2, c162, c172, s2, N2, k1, k2, k3⟩
    · obtain ⟨ok, w', a', c17', S', g1, g2, g3, g4, g5, g6⟩ := r3
      have h24 : ¬ A (86 + 6 * i) = (24 : Int32) := by rw [r2]; decide
      rw [r1, if_neg (by decide), if_neg (by decide), if_neg (by decide), if_pos rfl, g2, Option.bind_some, Option.bind_some, ← rkN_row hn25]
      have hps : PS w' A c16 (i + 1) := (hsS.sf g5).plain hn25 (by show ¬ isOp (A (86 + 6 * i)); rw [r2]; unfold isOp; decide)
      rw [m_live_go h7 h.2.2.1 h.2.2.2.1 (by omega) hiM (by omega) (by rw [r2]; decide), g3, Option.bind_some]
      dsimp only
      rw [m_111 g4.2.2.1 (by omega) h24, m_140 g4.2.2.1 (by omega) (by rw [r2]; decide), ← g6]
      rcases g1 with q | q
      · subst q
        rw [if_pos zer_eq, if_pos zer_eq]
        exact next (i + 1) _ a' c16 (upd c17' 0 (c17' 0 + 1)) S' g4.wait (hps.sf ⟨rfl, rfl, rfl⟩) (by omega)
      · subst q
        rw [if_neg one_ne, if_neg one_ne, Int32.add_zero, upd_same]
        exact next (i + 1) _ a' c16 c17' S' g4 hps (by omega)
    · obtain ⟨ok, w', a', c17', S', g1, g2, g3, g4, g5, g6⟩ := r9
      rw [if_neg r4, if_neg r2, if_neg r3, if_neg r1, g2, Option.bind_some, Option.bind_some, ← rkN_row hn25]
      have hps : PS w' A c16 (i + 1) := (hsS.sf g5).plain hn25 (fun q => by
        have q2 : isOp (A (86 + 6 * i)) := q
        rcases q2 with q2 | q2 | q2 | q2
        · exact r5 q2
        · rw [q2] at r8; exact absurd r8 (by decide)
        · rw [q2] at r8; exact absurd r8 (by decide)
        · rw [q2] at r8; exact absurd r8 (by decide))
      rw [m_live_go h7 h.2.2.1 h.2.2.2.1 (by omega) hiM (by omega) r7, g3, Option.bind_some]
      dsimp only
      rw [m_111 g4.2.2.1 (by omega) r5, m_140 g4.2.2.1 (by omega) r8, ← g6]
      rcases g1 with q | q
      · subst q
        rw [if_pos zer_eq, if_pos zer_eq]
        exact next (i + 1) _ a' c16 (upd c17' 0 (c17' 0 + 1)) S' g4.wait (hps.sf ⟨rfl, rfl, rfl⟩) (by omega)
      · subst q
        rw [if_neg one_ne, if_neg one_ne, Int32.add_zero, upd_same]
        exact next (i + 1) _ a' c16 c17' S' g4 hps (by omega)
end
