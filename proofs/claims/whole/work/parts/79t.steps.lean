/-! All steps of a plan are read. -/
section
variable {w m : GW} {B : Nat → Nat} {n T i s M nk nc : Nat}
theorem kmap_d : ∀ k : Fin 28, (k.val < 15 ∧ kmap (nI k.val) < (15 : Int32) ∧ ¬ kmap (nI k.val) = (23 : Int32) ∧ ¬ kmap (nI k.val) = (24 : Int32)) ∨ k.val = 24 ∨ k.val = 26 ∨ (k.val = 15 ∨ k.val = 16 ∨ k.val = 17 ∨ k.val = 18 ∨ k.val = 19 ∨ k.val = 20 ∨ k.val = 21 ∨ k.val = 22 ∨ k.val = 23 ∨ k.val = 25 ∨ k.val = 27) := by decide +kernel
theorem DO.fail {o1 o2 : Option (Int32 × GW)} {Q : GW → GW → Prop} (h : OK2 o1 o2 m Q) (hq : ∀ u' m', o1 = some (1, u') → o2 = some (1, m') → ¬ Q u' m') : DO m B n T i nc nk (o1.bind fun q => (if q.1 = 0 ∨ q.1 = 1 then some (q.1, gput w e_shPR_shT_2 q.2) else none)) (o2.bind fun q => (if q.1 = 0 ∨ q.1 = 1 then some (q.1, q.2) else none)) := by
  rcases h with ⟨u', m', h1, h2, h3⟩ | ⟨u', m', h1, h2, h3, h4⟩
  · exact absurd h3 (hq u' m' h1 h2)
  · exact Or.inr ⟨gput w e_shPR_shT_2 u', m', by rw [h1]; rfl, by rw [h2]; rfl, h3, h4.km⟩
theorem d_here (h : DP w m B n T i M nc nk) : DO m B n T i nc nk (f_X6_readStep_38 w) (f_X11_decadeStep_69 m) :=
  DO.fail (y_here h.1.1 h.1.2 (fun _ _ => False)) (fun _ _ _ _ z => z)
theorem d_step (h : DP w m B n T i M nc nk) (hne : w.1 2 2 ≠ (26 : Int32)) : DO m B n T i nc nk (F_X6_readStep w) (F_X11_decadeStep m) := by
  have hw := y_inw h.1.1
  have hw1 : F_X11_inWords m = some (kmap (w.1 2 2)) := hw.1
  have hw2 : w.1 2 2 = (-1 : Int32) ∨ ∃ k, k < 28 ∧ w.1 2 2 = nI k ∧ tO B (tp B i) ∧ tK B (tp B i) = 1 := hw.2
  unfold F_X11_decadeStep
  rw [hw1, Option.bind_some]
  have bad : (w.1 2 2 < (15 : Int32) ∨ w.1 2 2 = (24 : Int32)) → ¬ w.1 2 2 = (23 : Int32) → ¬ w.1 2 2 = (25 : Int32) → F_X6_readStep w = f_X6_readStep_38 w := by
    intro h1 h2 h3
    unfold F_X6_readStep f_X6_readStep_25
    rw [if_neg h2, if_neg h3]
    by_cases q : w.1 2 2 < (15 : Int32)
    · rw [if_pos q]
    · rw [if_neg q, if_pos (h1.resolve_left q)]
  have bad2 : (kmap (w.1 2 2) < (15 : Int32) ∨ (26 : Int32) < kmap (w.1 2 2)) → ¬ kmap (w.1 2 2) = (23 : Int32) → ¬ kmap (w.1 2 2) = (24 : Int32) → (if kmap (w.1 2 2) = (23 : Int32) then (f_X11_decadeStep_37 (kmap (w.1 2 2)) (m.1 1 1823) ((1902 : Int32) + ((6 : Int32) * (m.1 1 1823))) m) else (if kmap (w.1 2 2) = (24 : Int32) then (f_X11_decadeStep_37 (kmap (w.1 2 2)) (m.1 1 1823) ((1902 : Int32) + ((6 : Int32) * (m.1 1 1823))) m) else (f_X11_decadeStep_42 (kmap (w.1 2 2)) (m.1 1 1823) ((1902 : Int32) + ((6 : Int32) * (m.1 1 1823))) (0 : Int32) m))) = f_X11_decadeStep_69 m := by
    intro h1 h2 h3
    rw [if_neg h2, if_neg h3]
    unfold f_X11_decadeStep_42
    by_cases q : kmap (w.1 2 2) < (15 : Int32)
    · rw [if_pos q]
    · rw [if_neg q, if_pos (h1.resolve_left q)]
  rcases hw2 with z | ⟨k, hk, z, hO, _⟩
  · rw [bad (Or.inl (by rw [z]; decide)) (by rw [z]; decide) (by rw [z]; decide), bad2 (Or.inl (by rw [z]; decide)) (by rw [z]; decide) (by rw [z]; decide)]
    exact d_here h
  rcases kmap_d ⟨k, hk⟩ with ⟨e1, e2, e3, e4⟩ | e | e | e
  · have h15 : w.1 2 2 < (15 : Int32) := by rw [z]; exact nI_ltL (by show k < 15; exact e1) (by omega)
    have e1' : k < 15 := e1
    rw [bad (Or.inl h15) (by rw [z]; exact nI_neL (by show k ≠ 23; omega) (by omega) (by omega)) (by rw [z]; exact nI_neL (by show k ≠ 25; omega) (by omega) (by omega)), bad2 (Or.inl (by rw [z]; exact e2)) (by rw [z]; exact e3) (by rw [z]; exact e4)]
    exact d_here h
  · have z2 : w.1 2 2 = (24 : Int32) := by rw [z]; exact congrArg nI e
    rw [bad (Or.inr z2) (by rw [z2]; decide) (by rw [z2]; decide), bad2 (Or.inr (by rw [z2]; decide)) (by rw [z2]; decide) (by rw [z2]; decide)]
    exact d_here h
  · exact absurd (z.trans (congrArg nI e)) hne
  · have hk : goodK k := e
    have hg := goodK_k hk
    have a4 := h.2.2.1
    have a5 := h.2.2.2.1
    obtain ⟨a6, a7⟩ := h.2.2.2.2.1
    obtain ⟨a8, a9⟩ := h.2.2.2.2.2.1
    have hs := a4.1
    have hL := a4.2.2.1 M (Nat.le_refl M)
    have hM : M ≤ 60 := a4.bound
    have go := fun h1 h2 => d_go (o := if k = 23 ∨ k = 25 then 1 else 0) hk rfl h hO h1 h2
    have ex : F_X6_readStep w = (if rkN (rK (ra m)) M < 30 then (if (k = 23 ∨ k = 25) ∧ (skN (rK (ra m)) M).length = 3 then ((F_X8_fail (7 : Int32) (gsub w e_shPR_shT_2)).bind fun q8 => (if q8.1 = 0 ∨ q8.1 = 1 then some (q8.1, (gput w e_shPR_shT_2 q8.2)) else none)) else (f_X6_readStep_90 (nI k) (if k = 23 ∨ k = 25 then 1 else 0) w)) else ((F_X8_fail (6 : Int32) (gsub w e_shPR_shT_2)).bind fun q10 => (if q10.1 = 0 ∨ q10.1 = 1 then some (q10.1, (gput w e_shPR_shT_2 q10.2)) else none))) := by
      have e25 : ∀ o : Int32, (o = if k = 23 ∨ k = 25 then 1 else 0) → f_X6_readStep_25 (nI k) o w = (if rkN (rK (ra m)) M < 30 then (if (k = 23 ∨ k = 25) ∧ (skN (rK (ra m)) M).length = 3 then ((F_X8_fail (7 : Int32) (gsub w e_shPR_shT_2)).bind fun q8 => (if q8.1 = 0 ∨ q8.1 = 1 then some (q8.1, (gput w e_shPR_shT_2 q8.2)) else none)) else (f_X6_readStep_90 (nI k) (if k = 23 ∨ k = 25 then 1 else 0) w)) else ((F_X8_fail (6 : Int32) (gsub w e_shPR_shT_2)).bind fun q10 => (if q10.1 = 0 ∨ q10.1 = 1 then some (q10.1, (gput w e_shPR_shT_2 q10.2)) else none))) := by
        intro o ho
        unfold f_X6_readStep_25
        rw [if_neg hg.1, if_neg hg.2.1, a6, a8, ho]
        by_cases y : rkN (rK (ra m)) M < 30
        · rw [if_pos (nI_ltL y (by omega)), if_pos y]
          by_cases y2 : k = 23 ∨ k = 25
          · rw [if_pos y2, if_neg one_ne]
            by_cases y3 : (skN (rK (ra m)) M).length = 3
            · rw [if_neg (nI_nltL (by omega) (by omega)), if_pos ⟨y2, y3⟩]
            · rw [if_pos (nI_ltL (by show (skN (rK (ra m)) M).length < 3; omega) (by omega)), if_neg (fun q => y3 q.2)]
          · rw [if_neg y2, if_pos zer_eq, if_neg (fun q => y2 q.1)]
        · rw [if_neg (nI_nltL (by omega) (by omega)), if_neg y]
      unfold F_X6_readStep f_X6_readStep_20
      rw [z]
      by_cases y1 : k = 23
      · rw [if_pos (show nI k = (23 : Int32) from congrArg nI y1)]
        exact e25 1 (by rw [if_pos (Or.inl y1)])
      · rw [if_neg (show ¬ nI k = (23 : Int32) from nI_neL (by show k ≠ 23; exact y1) (by omega) (by omega))]
        by_cases y2 : k = 25
        · rw [if_pos (show nI k = (25 : Int32) from congrArg nI y2)]
          exact e25 1 (by rw [if_pos (Or.inr y2)])
        · rw [if_neg (show ¬ nI k = (25 : Int32) from nI_neL (by show k ≠ 25; exact y2) (by omega) (by omega))]
          exact e25 0 (by rw [if_neg (by omega)])
    have em : (if kmap (nI k) = (23 : Int32) then (f_X11_decadeStep_37 (kmap (nI k)) (nI M) (nI (1902 + 6 * M)) m) else (if kmap (nI k) = (24 : Int32) then (f_X11_decadeStep_37 (kmap (nI k)) (nI M) (nI (1902 + 6 * M)) m) else (f_X11_decadeStep_42 (kmap (nI k)) (nI M) (nI (1902 + 6 * M)) (0 : Int32) m))) = (if rkN (rK (ra m)) M < 30 then (if (k = 23 ∨ k = 25) ∧ (skN (rK (ra m)) M).length = 3 then ((F_X11_fails (7 : Int32) m).bind fun q16 => (if q16.1 = 0 ∨ q16.1 = 1 then some (q16.1, q16.2) else none)) else (f_X11_decadeStep_133 (kmap (nI k)) (nI M) (nI (1902 + 6 * M)) (if k = 23 ∨ k = 25 then 1 else 0) (1 : Int32) (nI (rkN (rK (ra m)) M)) m)) else ((F_X11_fails (6 : Int32) m).bind fun q12 => (if q12.1 = 0 ∨ q12.1 = 1 then some (q12.1, q12.2) else none))) := by
      have e42 : ∀ o : Int32, (o = if k = 23 ∨ k = 25 then 1 else 0) → f_X11_decadeStep_42 (kmap (nI k)) (nI M) (nI (1902 + 6 * M)) o m = (if rkN (rK (ra m)) M < 30 then (if (k = 23 ∨ k = 25) ∧ (skN (rK (ra m)) M).length = 3 then ((F_X11_fails (7 : Int32) m).bind fun q16 => (if q16.1 = 0 ∨ q16.1 = 1 then some (q16.1, q16.2) else none)) else (f_X11_decadeStep_133 (kmap (nI k)) (nI M) (nI (1902 + 6 * M)) (if k = 23 ∨ k = 25 then 1 else 0) (1 : Int32) (nI (rkN (rK (ra m)) M)) m)) else ((F_X11_fails (6 : Int32) m).bind fun q12 => (if q12.1 = 0 ∨ q12.1 = 1 then some (q12.1, q12.2) else none))) := by
        intro o ho
        unfold f_X11_decadeStep_42 f_X11_decadeStep_75 f_X11_decadeStep_97 f_X11_decadeStep_117
        rw [if_neg hg.2.2.1, if_neg hg.2.2.2.1, if_neg hg.2.2.2.2, if_neg hg.2.2.2.2, if_neg hg.2.2.2.2, a7, a9, ho]
        have e30 : (nI (rkN (rK (ra m)) M) = (30 : Int32)) = (rkN (rK (ra m)) M = 30) := nq_eq (b := 30) (by omega) (by omega)
        have e3 : (nI (skN (rK (ra m)) M).length = (3 : Int32)) = ((skN (rK (ra m)) M).length = 3) := nq_eq (b := 3) (by omega) (by omega)
        by_cases y : rkN (rK (ra m)) M < 30
        · rw [if_neg (fun q => by have := e30 ▸ q; omega), if_pos y]
          by_cases y2 : k = 23 ∨ k = 25
          · rw [if_pos y2, if_neg one_ne]
            by_cases y3 : (skN (rK (ra m)) M).length = 3
            · rw [if_pos (e3 ▸ y3), if_pos ⟨y2, y3⟩]
            · rw [if_neg (e3 ▸ y3), if_neg (fun q => y3 q.2)]
          · rw [if_neg y2, if_pos zer_eq, if_neg (fun q => y2 q.1)]
        · rw [if_pos (by rw [e30]; omega), if_neg y]
      unfold f_X11_decadeStep_37
      by_cases y1 : k = 23
      · rw [if_pos (by rw [y1]; decide)]
        exact e42 1 (by rw [if_pos (Or.inl y1)])
      · rw [if_neg (by rcases hk with q | q | q | q | q | q | q | q | q | q | q <;> first | exact absurd q y1 | (rw [q]; decide))]
        by_cases y2 : k = 25
        · rw [if_pos (by rw [y2]; decide)]
          exact e42 1 (by rw [if_pos (Or.inr y2)])
        · rw [if_neg (by rcases hk with q | q | q | q | q | q | q | q | q | q | q <;> first | exact absurd q y2 | (rw [q]; decide))]
          exact e42 0 (by rw [if_neg (by omega)])
    rw [z, a5, nq_Lmul, nq_Ladd, show (OfNat.ofNat 1902 + OfNat.ofNat 6 * M : Nat) = 1902 + 6 * M from rfl, ex, em]
    by_cases y : rkN (rK (ra m)) M < 30
    · rw [if_pos y, if_pos y]
      by_cases y2 : (k = 23 ∨ k = 25) ∧ (skN (rK (ra m)) M).length = 3
      · rw [if_pos y2, if_pos y2]
        exact DO.fail (y_fail h.1.1 h.1.2 hO.2 (k := 7) (by omega) (fun _ _ => False)) (fun _ _ _ _ z => z)
      · rw [if_neg y2, if_neg y2]
        exact go y (fun q => by
          rcases Nat.lt_or_ge (skN (rK (ra m)) M).length 3 with z | z
          · exact z
          · exact absurd ⟨q, by omega⟩ y2)
    · rw [if_neg y, if_neg y]
      exact DO.fail (y_fail h.1.1 h.1.2 hO.2 (k := 6) (by omega) (fun _ _ => False)) (fun _ _ _ _ z => z)
end
