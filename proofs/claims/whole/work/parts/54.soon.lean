/-! The soonest way to a rank. -/
theorem gI_gI (w : GW) (i k : Nat) (u v : Int32) : gI (gI w i k u) i k v = gI w i k v := by
  refine Prod.ext (funext fun p => funext fun q => ?_) rfl
  show (if p = i ∧ q = k then v else if p = i ∧ q = k then u else w.1 p q) = (if p = i ∧ q = k then v else w.1 p q)
  by_cases e : p = i ∧ q = k
  · rw [if_pos e, if_pos e]
  · rw [if_neg e, if_neg e, if_neg e]
def sYt (a : Nat → Int32) (g sh : Int32) (s r : Nat) : Int32 := fi (fun y => ¬ imin (99 : Int32) (sGb a g s (nI y) + sh) < a (17 + 2 * r)) 0 100
/-- years till he is of the rank, if he sits there; -1: not in 99 -/
def sYc (a : Nat → Int32) (c s r : Nat) : Int32 := sYt a (if a (27 + 7 * c) = nI s then a (27 + 7 * c + 2) else a (27 + 7 * c + 2) / (2 : Int32)) (if a (27 + 7 * c) = nI s then a (27 + 7 * c + 3) else 0) s r
section
variable {x m : GW} {nc nr nk nl : Nat}
theorem sYt_cases (a : Nat → Int32) (g sh : Int32) (s r : Nat) : sYt a g sh s r = (-1 : Int32) ∨ ∃ y, y < 100 ∧ sYt a g sh s r = nI y := by
  rcases fi_cases (fun y => ¬ imin (99 : Int32) (sGb a g s (nI y) + sh) < a (17 + 2 * r)) 100 0 (by omega) with h | ⟨y, _, h2, h3, _⟩
  · exact Or.inl h.1
  · exact Or.inr ⟨y, by omega, h3⟩
theorem x_yearsTill (hb : Bq (gsub x e_shX_shB_14) (m.1 1) (m.2 2) nc nr nk nl) (hi : Bi (m.1 1) nc nr nk nl) {c s r : Nat} (hc : c < nk) (hs : s < nc) (hr : r < nr) : F_X10_yearsTill x (nI c) (nI s) (nI r) = some (sYc (m.1 1) c s r) := by
  have hn := hi.cnt
  obtain ⟨t, ht, et⟩ := hi.seat hc
  have key : ∀ (sh : Int32) k n i, i + k = 100 → k < n → f_X10_yearsTill_44 x n (nI c) (nI s) (nI r) sh (nI i) = some (fi (fun y => ¬ imin (99 : Int32) (sGa (m.1 1) c s (nI y) + sh) < m.1 1 (17 + 2 * r)) i k) := by
    intro sh k
    induction k with
    | zero =>
      intro n i e h1
      obtain ⟨n, rfl⟩ := fu_pos h1
      show b_X10_yearsTill_44 _ x (nI c) (nI s) (nI r) sh (nI i) = _
      unfold b_X10_yearsTill_44
      rw [if_pos (nI_gtL (by omega) (by omega))]
      rfl
    | succ k ih =>
      intro n i e h1
      obtain ⟨n, rfl⟩ := fu_pos h1
      show b_X10_yearsTill_44 _ x (nI c) (nI s) (nI r) sh (nI i) = some (if ¬ imin (99 : Int32) (sGa (m.1 1) c s (nI i) + sh) < m.1 1 (17 + 2 * r) then nI i else fi (fun y => ¬ imin (99 : Int32) (sGa (m.1 1) c s (nI y) + sh) < m.1 1 (17 + 2 * r)) (i + 1) k)
      unfold b_X10_yearsTill_44
      rw [if_neg (nI_ngtL (by omega) (by omega)), x_seated hb hi hc hs, Option.bind_some, x_looksBy, Option.bind_some, if_pos (gin_nI (by omega) (by omega)), nI_clamp (by omega), show x.1 16 r = m.1 1 (17 + 2 * r) from hb.at hr, nI_1, ih n (i + 1) (by omega) (by omega)]
      by_cases hp : imin (99 : Int32) (sGa (m.1 1) c s (nI i) + sh) < m.1 1 (17 + 2 * r)
      · rw [if_pos hp, if_neg (fun q => q hp)]
      · rw [if_neg hp, if_pos hp]
  have key0 : ∀ sh : Int32, f_X10_yearsTill_44 x FU (nI c) (nI s) (nI r) sh (0 : Int32) = _ := fun sh => key sh 100 FU 0 (by omega) (by have := FU_big; omega)
  unfold F_X10_yearsTill f_X10_yearsTill_39
  rw [x_hasCorner hb hi, if_pos (gin_nI hs (by omega)), Option.bind_some, if_neg one_ne, if_pos (gin_nI (by omega) (by omega)), nI_clamp (by omega), show x.1 19 c = m.1 1 (27 + 7 * c) from hb.seat hc, show x.1 22 c = m.1 1 (27 + 7 * c + 3) from hb.sham hc, key0, key0]
  unfold sYc sYt sGa
  by_cases e : m.1 1 (27 + 7 * c) = nI s
  · rw [if_pos e.symm]
    simp only [if_pos e]
  · rw [if_neg (fun q => e q.symm)]
    simp only [if_neg e]
theorem x_yearsTill_no (hb : Bq (gsub x e_shX_shB_14) (m.1 1) (m.2 2) nc nr nk nl) (hi : Bi (m.1 1) nc nr nk nl) (u v : Int32) : F_X10_yearsTill x u (-1 : Int32) v = some (-1 : Int32) := by
  unfold F_X10_yearsTill
  rw [x_hasCorner hb hi, if_neg gin_neg, Option.bind_some, if_pos zer_eq]
theorem m_yearsTo (hi : Bi (m.1 1) nc nr nk nl) {s r : Nat} (hs : s < nc) (hr : r < nr) (g sh : Int32) : F_X11_yearsTo m g sh (nI s) (nI r) = some (if sYt (m.1 1) g sh s r = (-1 : Int32) then (1000000 : Int32) else sYt (m.1 1) g sh s r) := by
  have hn := hi.cnt
  have key : ∀ k n i, i + k = 100 → k < n → f_X11_yearsTo_3 m n g sh (nI s) (nI r) (nI i) = some (if fi (fun y => ¬ imin (99 : Int32) (sGb (m.1 1) g s (nI y) + sh) < m.1 1 (17 + 2 * r)) i k = (-1 : Int32) then (1000000 : Int32) else fi (fun y => ¬ imin (99 : Int32) (sGb (m.1 1) g s (nI y) + sh) < m.1 1 (17 + 2 * r)) i k) := by
    intro k
    induction k with
    | zero =>
      intro n i e h1
      obtain ⟨n, rfl⟩ := fu_pos h1
      show b_X11_yearsTo_3 _ m g sh (nI s) (nI r) (nI i) = _
      unfold b_X11_yearsTo_3
      rw [if_pos (nI_gtL (by omega) (by omega))]
      rfl
    | succ k ih =>
      intro n i e h1
      obtain ⟨n, rfl⟩ := fu_pos h1
      show b_X11_yearsTo_3 _ m g sh (nI s) (nI r) (nI i) = some (if (if ¬ imin (99 : Int32) (sGb (m.1 1) g s (nI i) + sh) < m.1 1 (17 + 2 * r) then nI i else fi (fun y => ¬ imin (99 : Int32) (sGb (m.1 1) g s (nI y) + sh) < m.1 1 (17 + 2 * r)) (i + 1) k) = (-1 : Int32) then (1000000 : Int32) else (if ¬ imin (99 : Int32) (sGb (m.1 1) g s (nI i) + sh) < m.1 1 (17 + 2 * r) then nI i else fi (fun y => ¬ imin (99 : Int32) (sGb (m.1 1) g s (nI y) + sh) < m.1 1 (17 + 2 * r)) (i + 1) k))
      unfold b_X11_yearsTo_3
      rw [if_neg (nI_ngtL (by omega) (by omega)), m_greyBy (by omega), Option.bind_some, m_rankRow, Option.bind_some, if_pos (gin_nI (by omega) (by omega)), nI_clamp (by omega), nI_1, ih n (i + 1) (by omega) (by omega)]
      by_cases hp : imin (99 : Int32) (sGb (m.1 1) g s (nI i) + sh) < m.1 1 (17 + 2 * r)
      · have e2 : (if ¬ imin (99 : Int32) (sGb (m.1 1) g s (nI i) + sh) < m.1 1 (17 + 2 * r) then nI i else fi (fun y => ¬ imin (99 : Int32) (sGb (m.1 1) g s (nI y) + sh) < m.1 1 (17 + 2 * r)) (i + 1) k) = fi (fun y => ¬ imin (99 : Int32) (sGb (m.1 1) g s (nI y) + sh) < m.1 1 (17 + 2 * r)) (i + 1) k := if_neg (fun q => q hp)
        rw [if_pos hp, e2]
      · have e2 : (if ¬ imin (99 : Int32) (sGb (m.1 1) g s (nI i) + sh) < m.1 1 (17 + 2 * r) then nI i else fi (fun y => ¬ imin (99 : Int32) (sGb (m.1 1) g s (nI y) + sh) < m.1 1 (17 + 2 * r)) (i + 1) k) = nI i := if_pos hp
        rw [if_neg hp, e2, if_neg (nI_nm (by omega))]
  exact key 100 FU 0 (by omega) (by have := FU_big; omega)
/-- what both hold while they go through the corners -/
def soR (a : Nat → Int32) (nc c r : Nat) (bc bt best v : Int32) : Prop :=
  (bt = (-1 : Int32) ∧ bc = (-1 : Int32) ∧ best = (1000000 : Int32)) ∨
  ∃ s y, s < nc ∧ y < 100 ∧ bc = nI s ∧ v = nI s ∧ bt = nI y ∧ best = nI y ∧ sYc a c s r = nI y
theorem soon_l (hb : Bq (gsub x e_shX_shB_14) (m.1 1) (m.2 2) nc nr nk nl) (hi : Bi (m.1 1) nc nr nk nl) {c r : Nat} (hc : c < nk) (hr : r < nr) : ∀ k n n2 i bc bt best v, i + k = nc → k < n → k < n2 → soR (m.1 1) nc c r bc bt best v → ∃ bc' bt' best' v', soR (m.1 1) nc c r bc' bt' best' v' ∧ f_X10_soonestCorner_38 x n (nI c) (nI r) bc bt (nI i) = some bc' ∧ f_X11_soonest_35 n2 (nI c) (nI r) best (nI i) (gI m 0 25 v) = some (best', gI m 0 25 v') := by
  have hn := hi.cnt
  have hn0 : x.1 14 3 = nI nc := hb.n0
  intro k
  induction k with
  | zero =>
    intro n n2 i bc bt best v e h1 h2 hR
    obtain ⟨n, rfl⟩ := fu_pos h1
    obtain ⟨n2, rfl⟩ := fu_pos h2
    refine ⟨bc, bt, best, v, hR, ?_, ?_⟩
    · show b_X10_soonestCorner_38 _ x (nI c) (nI r) bc bt (nI i) = _
      unfold b_X10_soonestCorner_38
      rw [hn0, if_pos (nI_le (by omega) (by omega))]
    · show b_X11_soonest_35 _ (nI c) (nI r) best (nI i) (gI m 0 25 v) = _
      unfold b_X11_soonest_35
      rw [show (gI m 0 25 v).1 1 0 = nI nc from hi.n0, if_pos (nI_le (by omega) (by omega))]
  | succ k ih =>
    intro n n2 i bc bt best v e h1 h2 hR
    obtain ⟨n, rfl⟩ := fu_pos h1
    obtain ⟨n2, rfl⟩ := fu_pos h2
    have hi' : Bi ((gI m 0 25 v).1 1) nc nr nk nl := hi
    show ∃ bc' bt' best' v', soR (m.1 1) nc c r bc' bt' best' v' ∧ b_X10_soonestCorner_38 _ x (nI c) (nI r) bc bt (nI i) = some bc' ∧ b_X11_soonest_35 _ (nI c) (nI r) best (nI i) (gI m 0 25 v) = some (best', gI m 0 25 v')
    have hbest : best = (1000000 : Int32) ∨ ∃ y, y < 100 ∧ best = nI y := by
      rcases hR with ⟨_, _, q⟩ | ⟨s, y, _, hy, _, _, _, q, _⟩
      · exact Or.inl q
      · exact Or.inr ⟨y, hy, q⟩
    have hmax : ¬ (1000000 : Int32) < best := by
      rcases hbest with q | ⟨y, hy, q⟩
      · rw [q]; decide
      · rw [q]; exact nI_ngtL (by omega) (by omega)
    unfold b_X10_soonestCorner_38 b_X11_soonest_35 f_X10_soonestCorner_99 f_X10_soonestCorner_92 f_X10_soonestCorner_99 f_X11_soonest_79 f_X11_soonest_99
    rw [hn0, if_neg (nI_ge (by omega) (by omega)), x_sitter hb hi, Option.bind_some, show (gI m 0 25 v).1 1 0 = nI nc from hi.n0, if_neg (nI_ge (by omega) (by omega)), m_sitter hi', Option.bind_some, nI_1]
    show ∃ bc' bt' best' v', soR (m.1 1) nc c r bc' bt' best' v' ∧ (if fi (fun c => m.1 1 (27 + 7 * c) = nI i) 0 nk = (-1 : Int32) then _ else _) = some bc' ∧ (if fi (fun c => m.1 1 (27 + 7 * c) = nI i) 0 nk = (-1 : Int32) then _ else _) = some (best', gI m 0 25 v')
    by_cases hf : fi (fun c => m.1 1 (27 + 7 * c) = nI i) 0 nk = (-1 : Int32)
    · have hne : ¬ m.1 1 (27 + 7 * c) = nI i := sit_free hi hf c hc
      have ey : sYc (m.1 1) c i r = sYt (m.1 1) (m.1 1 (27 + 7 * c + 2) / (2 : Int32)) 0 i r := by
        unfold sYc
        rw [if_neg hne, if_neg hne]
      rw [if_pos hf, if_pos hf, x_yearsTill hb hi hc (by omega) hr, Option.bind_some, m_clerk2 (by omega), Option.bind_some, m_yearsTo hi' (by omega) hr, Option.bind_some]
      simp only [show (gI m 0 25 v).1 1 = m.1 1 from rfl]
      rw [ey]
      rcases sYt_cases (m.1 1) (m.1 1 (27 + 7 * c + 2) / (2 : Int32)) 0 i r with q | ⟨y, hy, q⟩
      · rw [q, if_pos rfl, if_pos rfl, if_neg hmax]
        exact ih n n2 (i + 1) bc bt best v (by omega) (by omega) (by omega) hR
      · rw [q, if_neg (nI_nm (by omega)), if_neg (nI_nm (by omega)), gI_gI]
        rcases hR with ⟨rfl, rfl, rfl⟩ | ⟨s, y2, hs, hy2, rfl, rfl, rfl, rfl, hy3⟩
        · rw [if_pos rfl, if_pos (nI_ltL (by omega) (by omega))]
          exact ih n n2 (i + 1) (nI i) (nI y) (nI y) (nI i) (by omega) (by omega) (by omega) (Or.inr ⟨i, y, by omega, hy, rfl, rfl, rfl, rfl, ey.trans q⟩)
        · rw [if_neg (nI_nm (by omega))]
          by_cases hlt : y < y2
          · rw [if_neg (nI_ge hlt (by omega)), if_pos (nI_lt hlt (by omega))]
            exact ih n n2 (i + 1) (nI i) (nI y) (nI y) (nI i) (by omega) (by omega) (by omega) (Or.inr ⟨i, y, by omega, hy, rfl, rfl, rfl, rfl, ey.trans q⟩)
          · rw [if_pos (nI_le (Nat.le_of_not_lt hlt) (by omega)), if_neg (nI_nlt (Nat.le_of_not_lt hlt) (by omega))]
            exact ih n n2 (i + 1) (nI s) (nI y2) (nI y2) (nI s) (by omega) (by omega) (by omega) (Or.inr ⟨s, y2, hs, hy2, rfl, rfl, rfl, rfl, hy3⟩)
    · rw [if_neg hf, if_neg hf, if_neg hmax]
      exact ih n n2 (i + 1) bc bt best v (by omega) (by omega) (by omega) hR
theorem soon_both (hb : Bq (gsub x e_shX_shB_14) (m.1 1) (m.2 2) nc nr nk nl) (hi : Bi (m.1 1) nc nr nk nl) {c r : Nat} (hc : c < nk) (hr : r < nr) : ∃ bc' bt' best' v', soR (m.1 1) nc c r bc' bt' best' v' ∧ F_X10_soonestCorner x (nI c) (nI r) = some bc' ∧ F_X11_soonest (nI c) (nI r) m = some (best', gI m 0 25 v') := by
  have hn := hi.cnt
  obtain ⟨s, hs, es⟩ := hi.seat hc
  have e19 : x.1 19 c = nI s := (hb.seat hc).trans es
  have ey : sYc (m.1 1) c s r = sYt (m.1 1) (m.1 1 (27 + 7 * c + 2)) (m.1 1 (27 + 7 * c + 3)) s r := by
    unfold sYc
    rw [if_pos es, if_pos es]
  unfold F_X10_soonestCorner F_X11_soonest f_X10_soonestCorner_35
  rw [if_pos (gin_nI (by omega) (by omega)), nI_clamp (by omega), e19, x_yearsTill hb hi hc hs hr, Option.bind_some, m_clerk0 (by omega), Option.bind_some, es, m_clerk2 (by omega), Option.bind_some, m_clerk3 (by omega), Option.bind_some, m_yearsTo (m := gI m 0 25 (nI s)) hi hs hr, Option.bind_some, ey]
  show ∃ bc' bt' best' v', soR (m.1 1) nc c r bc' bt' best' v' ∧ _ ∧ f_X11_soonest_35 FU (nI c) (nI r) (if sYt (m.1 1) (m.1 1 (27 + 7 * c + 2)) (m.1 1 (27 + 7 * c + 3)) s r = (-1 : Int32) then (1000000 : Int32) else sYt (m.1 1) (m.1 1 (27 + 7 * c + 2)) (m.1 1 (27 + 7 * c + 3)) s r) (nI 0) (gI m 0 25 (nI s)) = _
  rcases sYt_cases (m.1 1) (m.1 1 (27 + 7 * c + 2)) (m.1 1 (27 + 7 * c + 3)) s r with q | ⟨y, hy, q⟩
  · rw [q, if_pos rfl, if_pos rfl]
    exact soon_l hb hi hc hr nc FU FU 0 _ _ _ _ (by omega) (by have := FU_big; omega) (by have := FU_big; omega) (Or.inl ⟨rfl, rfl, rfl⟩)
  · rw [q, if_neg (nI_nm (by omega)), if_neg (nI_nm (by omega))]
    exact soon_l hb hi hc hr nc FU FU 0 _ _ _ _ (by omega) (by have := FU_big; omega) (by have := FU_big; omega) (Or.inr ⟨s, y, hs, hy, rfl, rfl, rfl, rfl, ey.trans q⟩)
theorem RR.so (h : RR x m) (v : Int32) : RR x (gI m 0 25 v) := ⟨h.1, h.2.1, h.2.2.1, h.2.2.2.1, h.2.2.2.2.1, h.2.2.2.2.2⟩
theorem s_soon (h : RR x m) (u v : Int32) : Sm (F_X10_soon u v x) (F_X11_soon u v m) := by
  obtain ⟨nc, nr, nk, nl, hb, hi⟩ := h.bnk
  have hn := hi.cnt
  unfold F_X10_soon F_X11_soon f_X10_soon_22 f_X11_soon_16
  rw [x_hasClerk hb hi, m_isClerk hi, x_hasRank hb hi, m_isRank hi]
  simp only [F_X10_answer, F_X10_refuse, F_X10_answerOrRefuse, F_X10_grant, F_X10_deny, F_X11_gives, F_X11_refuse, F_X11_orNone, F_X11_is, Option.bind_some, ite01]
  rw [if_and, if_and]
  by_cases hu : gin u nk ∧ gin v nr
  · obtain ⟨c, hc, rfl⟩ := gin_of hu.1 (by omega)
    obtain ⟨r, hr, rfl⟩ := gin_of hu.2 (by omega)
    obtain ⟨bc, bt, best, v', hR, e1, e2⟩ := soon_both hb hi hc hr
    rw [if_pos hu, if_pos hu, e1, e2, Option.bind_some, Option.bind_some]
    rcases hR with ⟨rfl, rfl, rfl⟩ | ⟨s, y, hs, hy, rfl, rfl, rfl, rfl, hy3⟩
    · rw [x_yearsTill_no hb hi, Option.bind_some, if_pos rfl]
      dsimp only
      rw [if_neg (by decide)]
      exact Sm.fin (h.so v') _ _
    · rw [x_yearsTill hb hi hc hs hr, Option.bind_some, hy3, if_neg (nI_nm (by omega)), if_pos (nI_ltL (by omega) (by omega))]
      exact Sm.fin (h.so _) _ _
  · rw [if_neg hu, if_neg hu]; exact Sm.fin h _ _
theorem s_soonAt (h : RR x m) (u v : Int32) : Sm (F_X10_soonAt u v x) (F_X11_soonAt u v m) := by
  obtain ⟨nc, nr, nk, nl, hb, hi⟩ := h.bnk
  have hn := hi.cnt
  unfold F_X10_soonAt F_X11_soonAt f_X10_soonAt_22 f_X11_soonAt_16
  rw [x_hasClerk hb hi, m_isClerk hi, x_hasRank hb hi, m_isRank hi]
  simp only [F_X10_answer, F_X10_refuse, F_X10_answerOrRefuse, F_X10_grant, F_X10_deny, F_X11_gives, F_X11_refuse, F_X11_orNone, F_X11_is, Option.bind_some, ite01]
  rw [if_and, if_and]
  by_cases hu : gin u nk ∧ gin v nr
  · obtain ⟨c, hc, rfl⟩ := gin_of hu.1 (by omega)
    obtain ⟨r, hr, rfl⟩ := gin_of hu.2 (by omega)
    obtain ⟨bc, bt, best, v', hR, e1, e2⟩ := soon_both hb hi hc hr
    rw [if_pos hu, if_pos hu, e1, e2, Option.bind_some, Option.bind_some]
    rcases hR with ⟨rfl, rfl, rfl⟩ | ⟨s, y, hs, hy, rfl, rfl, rfl, rfl, hy3⟩
    · rw [if_pos rfl]
      dsimp only
      rw [if_neg (by decide)]
      exact Sm.fin (h.so v') _ _
    · rw [if_neg (nI_nm (by omega)), if_pos (nI_ltL (by omega) (by omega)), gI_same]
      exact Sm.fin (h.so _) _ _
  · rw [if_neg hu, if_neg hu]; exact Sm.fin h _ _
end
