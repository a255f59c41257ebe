/-! One row of the plan, on both sides. -/
section
variable {p m w : GW} {A : Nat → Int32} {nm : Nat → Int64} {nc nr nk : Nat} {y0 p0 : Int32} {a c16 c17 : Nat → Int32} {S N : Nat} {n : Int32}
theorem m_does_eq {j : Nat} (hj : j ≤ 60) : F_X11_does (nI (86 + 6 * j)) w = (if (w.1 1 (86 + 6 * j)) = (15 : Int32) then ((F_X11_yearsBy (w.1 1 (86 + 6 * j + 1)) w).bind fun q4 => (if q4.1 = 0 ∨ q4.1 = 1 then some (q4.1, q4.2) else none)) else (if (w.1 1 (86 + 6 * j)) = (16 : Int32) then ((F_X11_moves (w.1 1 (86 + 6 * j + 1)) (w.1 1 (86 + 6 * j + 2)) w).bind fun q8 => (if q8.1 = 0 ∨ q8.1 = 1 then some (q8.1, q8.2) else none)) else (if (w.1 1 (86 + 6 * j)) = (17 : Int32) then ((F_X11_swaps (w.1 1 (86 + 6 * j + 1)) (w.1 1 (86 + 6 * j + 2)) w).bind fun q12 => (if q12.1 = 0 ∨ q12.1 = 1 then some (q12.1, q12.2) else none)) else (if (w.1 1 (86 + 6 * j)) = (18 : Int32) then ((F_X11_fans (w.1 1 (86 + 6 * j + 1)) (w.1 1 (86 + 6 * j + 2)) w).bind fun q16 => (if q16.1 = 0 ∨ q16.1 = 1 then some (q16.1, q16.2) else none)) else (if (w.1 1 (86 + 6 * j)) = (19 : Int32) then ((F_X11_cleans (w.1 1 (86 + 6 * j + 1)) (1 : Int32) w).bind fun q19 => (if q19.1 ≤ 0 then (some ((0 : Int32), q19.2)) else (some ((1 : Int32), q19.2)))) else (if (w.1 1 (86 + 6 * j)) = (20 : Int32) then ((F_X11_cleans (w.1 1 (86 + 6 * j + 1)) (0 : Int32) w).bind fun q22 => (if q22.1 ≤ 0 then (some ((0 : Int32), q22.2)) else (some ((1 : Int32), q22.2)))) else (if (w.1 1 (86 + 6 * j)) = (21 : Int32) then ((F_X11_runsBy w).bind fun q25 => (if q25.1 = 0 ∨ q25.1 = 1 then some (q25.1, q25.2) else none)) else (if (w.1 1 (86 + 6 * j)) = (22 : Int32) then ((F_X11_doesAny w).bind fun q28 => (if q28.1 = 0 ∨ q28.1 = 1 then some (q28.1, q28.2) else none)) else (some ((1 : Int32), w)))))))))) := by
  have g0 : gin (nI (86 + 6 * j)) 2356 := gin_nI (by omega) (by omega)
  have g1 : gin (nI (86 + 6 * j + 1)) 2356 := gin_nI (by omega) (by omega)
  have g2 : gin (nI (86 + 6 * j + 2)) 2356 := gin_nI (by omega) (by omega)
  unfold F_X11_does
  rw [show nI (86 + 6 * j) + (1 : Int32) = nI (86 + 6 * j + 1) from nq_addL _ _, show nI (86 + 6 * j) + (2 : Int32) = nI (86 + 6 * j + 2) from nq_addL _ _, if_pos g1, if_pos g0, if_pos g2, if_pos g2, if_pos g2, nI_clamp (n := 86 + 6 * j) (by omega), nI_clamp (n := 86 + 6 * j + 1) (by omega), nI_clamp (n := 86 + 6 * j + 2) (by omega)]
theorem LD.boo {o1 o2 : Option (Int32 × GW)} (h : LD p A nm nc nr nk y0 p0 m w c16 c17 n N o1 o2) : LD p A nm nc nr nk y0 p0 m w c16 c17 n N o1 (o2.bind fun q => (if q.1 = 0 ∨ q.1 = 1 then some (q.1, q.2) else none)) := by
  obtain ⟨ok, w', a', c', S', g1, g2, g3, g4⟩ := h
  exact ⟨ok, w', a', c', S', g1, g2, by rw [g3, Option.bind_some, if_pos g1], g4⟩
theorem LD.boo1 {o1 o2 : Option (Int32 × GW)} (h : LD p A nm nc nr nk y0 p0 m w c16 c17 n N o1 o2) : LD p A nm nc nr nk y0 p0 m w c16 c17 n N (o1.bind fun q => (if q.1 = 0 ∨ q.1 = 1 then some (q.1, q.2) else none)) o2 := by
  obtain ⟨ok, w', a', c', S', g1, g2, g3⟩ := h
  exact ⟨ok, w', a', c', S', g1, by rw [g2, Option.bind_some, if_pos g1], g3⟩
theorem LD.eq {o1 o1' o2 o2' : Option (Int32 × GW)} (h : LD p A nm nc nr nk y0 p0 m w c16 c17 n N o1 o2) (e1 : o1' = o1) (e2 : o2' = o2) : LD p A nm nc nr nk y0 p0 m w c16 c17 n N o1' o2' := by
  rw [e1, e2]; exact h
/-- what a row is, and what both do at it -/
def RD (p : GW) (A : Nat → Int32) (nm : Nat → Int64) (nc nr nk : Nat) (y0 p0 : Int32) (m w : GW) (a c16 c17 : Nat → Int32) (S : Nat) (n : Int32) (N j s : Nat) : Prop :=
  (p.1 1 s = (27 : Int32) ∧ A (86 + 6 * j) = (26 : Int32)) ∨
  (p.1 1 s = (25 : Int32) ∧ A (86 + 6 * j) = (24 : Int32) ∧ (∃ y, 1 ≤ y ∧ y ≤ 99 ∧ p.1 4 s = nI y ∧ A (86 + 6 * j + 1) = nI y) ∧ F_X11_does (nI (86 + 6 * j)) (mZ m a c16 c17 (nI S) n) = some ((1 : Int32), mZ m a c16 c17 (nI S) n)) ∨
  (p.1 1 s = (23 : Int32) ∧ (A (86 + 6 * j) = (2301 : Int32) ∨ A (86 + 6 * j) = (2303 : Int32) ∨ A (86 + 6 * j) = (2327 : Int32)) ∧ (∃ r, (r = (0 : Int32) ∨ r = (1 : Int32)) ∧ F_X3_holds w (nI s) = some r ∧ F_X11_holds (mZ m a c16 c17 (nI S) n) (nI (86 + 6 * j)) = some r) ∧ F_X11_does (nI (86 + 6 * j)) (mZ m a c16 c17 (nI S) n) = some ((1 : Int32), mZ m a c16 c17 (nI S) n)) ∨
  (p.1 1 s = (22 : Int32) ∧ A (86 + 6 * j) = (22 : Int32) ∧ LD p A nm nc nr nk y0 p0 m w c16 c17 n N (F_X3_dustOrWait w) (F_X11_does (nI (86 + 6 * j)) (mZ m a c16 c17 (nI S) n))) ∨
  (p.1 1 s ≠ (22 : Int32) ∧ p.1 1 s ≠ (23 : Int32) ∧ p.1 1 s ≠ (25 : Int32) ∧ p.1 1 s ≠ (27 : Int32) ∧ A (86 + 6 * j) ≠ (24 : Int32) ∧ A (86 + 6 * j) ≠ (25 : Int32) ∧ A (86 + 6 * j) ≠ (26 : Int32) ∧ A (86 + 6 * j) < (2300 : Int32) ∧ LD p A nm nc nr nk y0 p0 m w c16 c17 n N (F_X3_act (nI s) w) (F_X11_does (nI (86 + 6 * j)) (mZ m a c16 c17 (nI S) n)))
theorem x_act_eq {s : Nat} (hs : s < 30) : F_X3_act (nI s) w = (if (w.1 17 s) = (15 : Int32) then ((F_X0_passYears (w.1 20 s) (gsub w e_shL_shB_3)).bind fun q3 => (if q3.1 = (-1 : Int32) then (some ((0 : Int32), (gput w e_shL_shB_3 q3.2))) else (some ((1 : Int32), (gput w e_shL_shB_3 q3.2))))) else (if (w.1 17 s) = (16 : Int32) then ((F_X0_seatElsewhere (w.1 18 s) (w.1 20 s) (gsub w e_shL_shB_3)).bind fun q6 => (if q6.1 = (-1 : Int32) then (some ((0 : Int32), (gput w e_shL_shB_3 q6.2))) else (some ((1 : Int32), (gput w e_shL_shB_3 q6.2))))) else (if (w.1 17 s) = (17 : Int32) then ((F_X0_exchange (w.1 18 s) (w.1 19 s) (gsub w e_shL_shB_3)).bind fun q9 => (if q9.1 = (-1 : Int32) then (some ((0 : Int32), (gput w e_shL_shB_3 q9.2))) else (some ((1 : Int32), (gput w e_shL_shB_3 q9.2))))) else (if (w.1 17 s) = (18 : Int32) then ((F_X0_addSham (w.1 18 s) (w.1 20 s) (gsub w e_shL_shB_3)).bind fun q12 => (if q12.1 = (-1 : Int32) then (some ((0 : Int32), (gput w e_shL_shB_3 q12.2))) else (some ((1 : Int32), (gput w e_shL_shB_3 q12.2))))) else (if (w.1 17 s) = (19 : Int32) then ((F_X0_wipe (w.1 18 s) (gsub w e_shL_shB_3)).bind fun q15 => (if q15.1 = (-1 : Int32) then (some ((0 : Int32), (gput w e_shL_shB_3 q15.2))) else (some ((1 : Int32), (gput w e_shL_shB_3 q15.2))))) else (if (w.1 17 s) = (20 : Int32) then ((F_X0_exposeSham (w.1 18 s) (gsub w e_shL_shB_3)).bind fun q18 => (if q18.1 = (-1 : Int32) then (some ((0 : Int32), (gput w e_shL_shB_3 q18.2))) else (some ((1 : Int32), (gput w e_shL_shB_3 q18.2))))) else ((F_X3_payClients w).bind fun q20 => (if q20.1 = 0 ∨ q20.1 = 1 then some (q20.1, q20.2) else none)))))))) := by
  unfold F_X3_act
  rw [if_pos (gin_nI (by omega) (by omega)), nI_clamp (n := s) (by omega)]
theorem d_row (h : LQ p A nm nc nr nk y0 p0 w a c17 S N) (hm : m.2 2 = nm) {j s : Nat} (hP : Prow p A nk nc j s) (hj : j ≤ 60) (hs : s < 30) : RD p A nm nc nr nk y0 p0 m w a c16 c17 S n N j s := by
  have hp : ∀ i, i < 8 → w.1 (16 + i) s = p.1 i s := fun i hi => h.2.1 i hi s
  have h1 : w.1 17 s = p.1 1 s := hp 1 (by omega)
  have h2 : w.1 18 s = p.1 2 s := hp 2 (by omega)
  have h3 : w.1 19 s = p.1 3 s := hp 3 (by omega)
  have h4 : w.1 20 s = p.1 4 s := hp 4 (by omega)
  have h5 : w.1 21 s = p.1 5 s := hp 5 (by omega)
  have h6 : w.1 22 s = p.1 6 s := hp 6 (by omega)
  have k0 : a (86 + 6 * j) = A (86 + 6 * j) := h.2.2.1 _ (by omega)
  have k1 : a (86 + 6 * j + 1) = A (86 + 6 * j + 1) := h.2.2.1 _ (by omega)
  have k2 : a (86 + 6 * j + 2) = A (86 + 6 * j + 2) := h.2.2.1 _ (by omega)
  have k5 : a (86 + 6 * j + 5) = A (86 + 6 * j + 5) := h.2.2.1 _ (by omega)
  have hD := m_does_eq (w := mZ m a c16 c17 (nI S) n) hj
  have hX := x_act_eq (w := w) hs
  rw [Z_1, k0, k1, k2] at hD
  rw [h1, h2, h3, h4] at hX
  have hO : ∀ v : Int32, A (86 + 6 * j) = v → v ≠ 15 → v ≠ 16 → v ≠ 17 → v ≠ 18 → v ≠ 19 → v ≠ 20 → v ≠ 21 → v ≠ 22 → F_X11_does (nI (86 + 6 * j)) (mZ m a c16 c17 (nI S) n) = some ((1 : Int32), mZ m a c16 c17 (nI S) n) := by
    intro v e0 e1 e2 e3 e4 e5 e6 e7 e8
    rw [hD, e0, if_neg e1, if_neg e2, if_neg e3, if_neg e4, if_neg e5, if_neg e6, if_neg e7, if_neg e8]
  have hA : ∀ v u : Int32, p.1 1 s = v → A (86 + 6 * j) = u → v ≠ (22 : Int32) ∧ v ≠ (23 : Int32) ∧ v ≠ (25 : Int32) ∧ v ≠ (27 : Int32) ∧ u ≠ (24 : Int32) ∧ u ≠ (25 : Int32) ∧ u ≠ (26 : Int32) ∧ u < (2300 : Int32) → LD p A nm nc nr nk y0 p0 m w c16 c17 n N (F_X3_act (nI s) w) (F_X11_does (nI (86 + 6 * j)) (mZ m a c16 c17 (nI S) n)) → RD p A nm nc nr nk y0 p0 m w a c16 c17 S n N j s := by
    intro v u e1 e2 q hl
    refine Or.inr (Or.inr (Or.inr (Or.inr ?_)))
    rw [e1, e2]
    exact ⟨q.1, q.2.1, q.2.2.1, q.2.2.2.1, q.2.2.2.2.1, q.2.2.2.2.2.1, q.2.2.2.2.2.2.1, q.2.2.2.2.2.2.2, hl⟩
  rcases hP with ⟨e1, e2, y, y1, y2, e3, e4⟩ | ⟨e1, e2, c, d, c1, d1, e3, e4, e5, e6⟩ | ⟨e1, e2, c, d, c1, d1, e3, e4, e5, e6⟩ | ⟨e1, e2, c, d, c1, d1, e3, e4, e5, e6⟩ | ⟨e1, e2, c, c1, e3, e4⟩ | ⟨e1, e2, c, c1, e3, e4⟩ | ⟨e1, e2⟩ | ⟨e1, e2⟩ | ⟨e1, e2⟩ | ⟨e1, e2, hy⟩ | ⟨e1, e2, e3, hc⟩
  · refine hA 15 15 e1 e2 (by decide) ?_
    rw [hX, hD, e1, e2, if_pos rfl, if_pos rfl, e3, e4]
    exact (d_years h hm (by omega)).boo
  · refine hA 16 16 e1 e2 (by decide) ?_
    rw [hX, hD, e1, e2, if_neg (show ¬ (16 : Int32) = 15 by decide), if_pos rfl, if_neg (show ¬ (16 : Int32) = 15 by decide), if_pos rfl, e3, e4, e5, e6]
    exact (d_moves h c1 d1).boo
  · refine hA 17 17 e1 e2 (by decide) ?_
    rw [hX, hD, e1, e2, if_neg (show ¬ (17 : Int32) = 15 by decide), if_neg (show ¬ (17 : Int32) = 16 by decide), if_pos rfl, if_neg (show ¬ (17 : Int32) = 15 by decide), if_neg (show ¬ (17 : Int32) = 16 by decide), if_pos rfl, e3, e4, e5, e6]
    exact (d_swaps h c1 d1).boo
  · refine hA 18 18 e1 e2 (by decide) ?_
    rw [hX, hD, e1, e2, if_neg (show ¬ (18 : Int32) = 15 by decide), if_neg (show ¬ (18 : Int32) = 16 by decide), if_neg (show ¬ (18 : Int32) = 17 by decide), if_pos rfl, if_neg (show ¬ (18 : Int32) = 15 by decide), if_neg (show ¬ (18 : Int32) = 16 by decide), if_neg (show ¬ (18 : Int32) = 17 by decide), if_pos rfl, e3, e4, e5, e6]
    exact (d_fans h c1 d1).boo
  · refine hA 19 19 e1 e2 (by decide) ?_
    rw [hX, hD, e1, e2, if_neg (show ¬ (19 : Int32) = 15 by decide), if_neg (show ¬ (19 : Int32) = 16 by decide), if_neg (show ¬ (19 : Int32) = 17 by decide), if_neg (show ¬ (19 : Int32) = 18 by decide), if_pos rfl, if_neg (show ¬ (19 : Int32) = 15 by decide), if_neg (show ¬ (19 : Int32) = 16 by decide), if_neg (show ¬ (19 : Int32) = 17 by decide), if_neg (show ¬ (19 : Int32) = 18 by decide), if_pos rfl, e3, e4]
    exact d_wipe h c1
  · refine hA 20 20 e1 e2 (by decide) ?_
    rw [hX, hD, e1, e2, if_neg (show ¬ (20 : Int32) = 15 by decide), if_neg (show ¬ (20 : Int32) = 16 by decide), if_neg (show ¬ (20 : Int32) = 17 by decide), if_neg (show ¬ (20 : Int32) = 18 by decide), if_neg (show ¬ (20 : Int32) = 19 by decide), if_pos rfl, if_neg (show ¬ (20 : Int32) = 15 by decide), if_neg (show ¬ (20 : Int32) = 16 by decide), if_neg (show ¬ (20 : Int32) = 17 by decide), if_neg (show ¬ (20 : Int32) = 18 by decide), if_neg (show ¬ (20 : Int32) = 19 by decide), if_pos rfl, e3, e4]
    exact d_look h c1
  · refine hA 21 21 e1 e2 (by decide) ?_
    rw [hX, hD, e1, e2, if_neg (show ¬ (21 : Int32) = 15 by decide), if_neg (show ¬ (21 : Int32) = 16 by decide), if_neg (show ¬ (21 : Int32) = 17 by decide), if_neg (show ¬ (21 : Int32) = 18 by decide), if_neg (show ¬ (21 : Int32) = 19 by decide), if_neg (show ¬ (21 : Int32) = 20 by decide), if_neg (show ¬ (21 : Int32) = 15 by decide), if_neg (show ¬ (21 : Int32) = 16 by decide), if_neg (show ¬ (21 : Int32) = 17 by decide), if_neg (show ¬ (21 : Int32) = 18 by decide), if_neg (show ¬ (21 : Int32) = 19 by decide), if_neg (show ¬ (21 : Int32) = 20 by decide), if_pos rfl]
    exact ((d_run h).boo).boo1
  · refine Or.inr (Or.inr (Or.inr (Or.inl ⟨e1, e2, ?_⟩)))
    rw [hD, e2, if_neg (show ¬ (22 : Int32) = 15 by decide), if_neg (show ¬ (22 : Int32) = 16 by decide), if_neg (show ¬ (22 : Int32) = 17 by decide), if_neg (show ¬ (22 : Int32) = 18 by decide), if_neg (show ¬ (22 : Int32) = 19 by decide), if_neg (show ¬ (22 : Int32) = 20 by decide), if_neg (show ¬ (22 : Int32) = 21 by decide), if_pos rfl]
    exact (d_any h hm).boo
  · exact Or.inl ⟨e1, e2⟩
  · exact Or.inr (Or.inl ⟨e1, e2, hy, hO 24 e2 (by decide) (by decide) (by decide) (by decide) (by decide) (by decide) (by decide) (by decide)⟩)
  · obtain ⟨nl, hb, hi⟩ := h.1
    have hn := hi.cnt
    have g0 : gin (nI (86 + 6 * j)) 2356 := gin_nI (by omega) (by omega)
    have g1 : gin (nI (86 + 6 * j + 1)) 2356 := gin_nI (by omega) (by omega)
    have g2 : gin (nI (86 + 6 * j + 2)) 2356 := gin_nI (by omega) (by omega)
    have g5 : gin (nI (86 + 6 * j + 5)) 2356 := gin_nI (by omega) (by omega)
    have cmp : ∀ v : Int32, ∃ r, (r = (0 : Int32) ∨ r = (1 : Int32)) ∧ (if p.1 6 s = (60 : Int32) then (if p.1 4 s ≤ v then (some (0 : Int32)) else (some (1 : Int32))) else (if p.1 6 s = (62 : Int32) then (if v ≤ p.1 4 s then (some (0 : Int32)) else (some (1 : Int32))) else (if v = p.1 4 s then (some (1 : Int32)) else (some (0 : Int32))))) = some r ∧ f_X11_holds_58 (mZ m a c16 c17 (nI S) n) (nI (86 + 6 * j)) v = some r := by
      intro v
      unfold f_X11_holds_58
      rw [show nI (86 + 6 * j) + (5 : Int32) = nI (86 + 6 * j + 5) from nq_addL _ _, show nI (86 + 6 * j) + (2 : Int32) = nI (86 + 6 * j + 2) from nq_addL _ _, if_pos g5, if_pos g2, if_pos g2, if_pos g2, nI_clamp (n := 86 + 6 * j + 5) (by omega), nI_clamp (n := 86 + 6 * j + 2) (by omega), Z_1, k5, k2, ← e3, ← e2]
      by_cases q1 : p.1 6 s = (60 : Int32)
      · rw [if_pos q1]
        by_cases q2 : p.1 4 s ≤ v
        · rw [if_pos q2]; exact ⟨0, Or.inl rfl, rfl, rfl⟩
        · rw [if_neg q2]; exact ⟨1, Or.inr rfl, rfl, rfl⟩
      · rw [if_neg q1]
        by_cases q3 : p.1 6 s = (62 : Int32)
        · rw [if_pos q3]
          by_cases q2 : v ≤ p.1 4 s
          · rw [if_pos q2]; exact ⟨0, Or.inl rfl, rfl, rfl⟩
          · rw [if_neg q2]; exact ⟨1, Or.inr rfl, rfl, rfl⟩
        · rw [if_neg q3]
          by_cases q2 : v = p.1 4 s
          · rw [if_pos q2]; exact ⟨1, Or.inr rfl, rfl, rfl⟩
          · rw [if_neg q2]; exact ⟨0, Or.inl rfl, rfl, rfl⟩
    have hm1 : (nI (86 + 6 * j) + (1 : Int32)) = nI (86 + 6 * j + 1) := nq_addL _ _
    rcases hc with ⟨z1, z2⟩ | ⟨z1, z2, c, c1, z3, z4⟩ | ⟨z1, z2, c, c1, z3, z4⟩
    · refine Or.inr (Or.inr (Or.inl ⟨e1, Or.inl z2, ?_, hO 2301 z2 (by decide) (by decide) (by decide) (by decide) (by decide) (by decide) (by decide) (by decide)⟩))
      obtain ⟨r, r0, r1, r2⟩ := cmp (a 5)
      refine ⟨r, r0, ?_, ?_⟩
      · unfold F_X3_holds F_X3_foundBy
        rw [if_pos (gin_nI (by omega) (by omega)), nI_clamp (n := s) (by omega), h2, h4, h5, h6, z1, if_neg (by decide), if_neg (by decide), Option.bind_some, show w.1 3 1 = a 5 from hb.cash]
        exact r1
      · unfold F_X11_holds
        rw [if_pos g0, hm1, if_pos g1, nI_clamp (n := 86 + 6 * j) (by omega), Z_1, k0, z2, if_pos (by decide)]
        exact r2
    · refine Or.inr (Or.inr (Or.inl ⟨e1, Or.inr (Or.inl z2), ?_, hO 2303 z2 (by decide) (by decide) (by decide) (by decide) (by decide) (by decide) (by decide) (by decide)⟩))
      obtain ⟨r, r0, r1, r2⟩ := cmp (sRb a nr (sLk a c) + (1 : Int32))
      refine ⟨r, r0, ?_, ?_⟩
      · unfold F_X3_holds F_X3_foundBy
        rw [if_pos (gin_nI (by omega) (by omega)), nI_clamp (n := s) (by omega), h2, h4, h5, h6, z1, if_pos rfl, z3, x_looksOf hb hi c1, Option.bind_some, x_rankBy hb hi, Option.bind_some, Option.bind_some]
        exact r1
      · unfold F_X11_holds
        rw [if_pos g0, hm1, if_pos g1, nI_clamp (n := 86 + 6 * j) (by omega), nI_clamp (n := 86 + 6 * j + 1) (by omega), Z_1, k0, k1, z2, if_neg (by decide), if_pos (by decide), z4, m_looksOf (by omega), Option.bind_some, m_rankBy (m := mZ m a c16 c17 (nI S) n) hi, Option.bind_some]
        exact r2
    · refine Or.inr (Or.inr (Or.inl ⟨e1, Or.inr (Or.inr z2), ?_, hO 2327 z2 (by decide) (by decide) (by decide) (by decide) (by decide) (by decide) (by decide) (by decide)⟩))
      obtain ⟨r, r0, r1, r2⟩ := cmp (sLk a c)
      refine ⟨r, r0, ?_, ?_⟩
      · unfold F_X3_holds F_X3_foundBy
        rw [if_pos (gin_nI (by omega) (by omega)), nI_clamp (n := s) (by omega), h2, h4, h5, h6, z1, if_neg (by decide), if_pos rfl, z3, x_looksOf hb hi c1, Option.bind_some, Option.bind_some]
        exact r1
      · unfold F_X11_holds
        rw [if_pos g0, hm1, if_pos g1, nI_clamp (n := 86 + 6 * j) (by omega), nI_clamp (n := 86 + 6 * j + 1) (by omega), Z_1, k0, k1, z2, if_neg (by decide), if_neg (by decide), z4, m_looksOf (by omega), Option.bind_some]
        exact r2
end
