section
variable {y m : GW} {B : Nat → Nat} {n T i nc nr nk nl f : Nat}
/-- a part of a bank ends with its sign -/
theorem y_tail {y1 m1 : GW} {j : Nat} (h : BP y1 m1 B n T j nc nr nk nl f) (hj : i ≤ j) (hk : KM m m1) : PO m B n T i ((F_X8_passSemicolon (gsub y1 e_shBR_shT_1)).bind fun q6 => (if q6.1 = 0 ∨ q6.1 = 1 then some (q6.1, gput y1 e_shBR_shT_1 q6.2) else none)) (f_X11_bankPart_158 (1 : Int32) m1) := by
  obtain ⟨⟨a1, a2⟩, ⟨b1, b2, b3⟩, c1, c2, c3, c4⟩ := h
  unfold f_X11_bankPart_158
  rw [if_neg one_ne]
  rcases y_semi a1 a2 with ⟨u', m', h1, h2, h3, h4, h5⟩ | ⟨u', m', h1, h2, h3, h4⟩
  · refine Or.inl ⟨gput y1 e_shBR_shT_1 u', m', nc, nr, nk, nl, f, j + 1, by rw [h1]; rfl, by rw [h2]; rfl, ⟨⟨h3, h4⟩, ⟨?_, ?_, ?_⟩, (h5.2.2 20 (by omega)).trans c1, c2, c3, c4⟩, by omega, hk.tr h5.km⟩
    · rw [ra_fr h5, rb_fr h5]; exact b1
    · rw [ra_fr h5]; exact b2
    · rw [ra_fr h5]; exact b3
  · exact Or.inr ⟨gput y1 e_shBR_shT_1 u', m', by rw [h1]; rfl, by rw [h2]; rfl, h3, hk.tr h4.km⟩
theorem or_one (f : Nat) : (nI f ||| ((1 : Int32) <<< ((0 : Int32) &&& 31))) = nI (f ||| 1) := by
  rw [show ((1 : Int32) <<< ((0 : Int32) &&& 31)) = nI 1 by decide, nI_or]
theorem or_two (f : Nat) : (nI f ||| ((1 : Int32) <<< ((1 : Int32) &&& 31))) = nI (f ||| 2) := by
  rw [show ((1 : Int32) <<< ((1 : Int32) &&& 31)) = nI 2 by decide, nI_or]
theorem bits64 : ∀ f : Fin 64, (f.val ||| 1) < 64 ∧ (f.val ||| 2) < 64 ∧ (f.val ||| 1).testBit 0 = true ∧ (f.val ||| 1).testBit 1 = f.val.testBit 1 ∧ (f.val ||| 2).testBit 1 = true ∧ (f.val ||| 2).testBit 0 = f.val.testBit 0 := by decide +kernel
theorem x_odds (h : BP y m B n T i nc nr nk nl f) (hO : tO B (tp B i)) (hf : f.testBit 0 = false) : PO m B n T i (F_X1_readOdds y) (f_X11_bankPart_45 (0 : Int32) m) := by
  obtain ⟨⟨a1, a2⟩, ⟨b1, b2, b3⟩, c1, c2, c3, c4⟩ := h
  have hn := b2.cnt
  obtain ⟨f1, _, f2, f3, _, _⟩ := bits64 ⟨f, c2⟩
  unfold F_X1_readOdds f_X11_bankPart_45 f_X11_bankPart_66
  rw [c3, hf, if_neg (show ¬ (false = true) by decide), if_pos zer_eq, if_neg (show ¬ (1 : Int32) < 0 by decide), c1, or_one]
  have s1 : SY (gsub (gI y 0 2 (1 : Int32)) e_shBR_shT_1) (gI m 0 20 (nI (f ||| 1))) B n T i := a1.mv (m1 := gI m 0 20 (nI (f ||| 1))) (fun k hk => gI_of _ _ (by omega)) rfl
  obtain ⟨u1, m1, g1, g2, g3, g4, g5, g6⟩ := y_adv s1 a2 hO
  rw [g1, g2, Option.bind_some, Option.bind_some, if_pos rfl]
  have s2 : SY (gsub (gput (gI y 0 2 (1 : Int32)) e_shBR_shT_1 u1) e_shBR_shT_1) m1 B n T (i + 1) := g3
  have k1 : KM m m1 := (KM.flag _).tr g6.km
  rcases y_num s2 g4 (0 : Int32) (16 : Int32) (r := 1820) (by omega) with ⟨u2, m2, h1, h2, v, v1, v2, v3, p1, p2, p3, p4, p5, _⟩ | ⟨u2, m2, h1, h2, h3, h4⟩
  · rw [h1, show F_X11_number (1820 : Int32) (0 : Int32) (16 : Int32) m1 = _ from h2, Option.bind_some, Option.bind_some, if_neg one_ne, show F_X8_passedNumber (gsub (gput (gput (gI y 0 2 (1 : Int32)) e_shBR_shT_1 u1) e_shBR_shT_1 u2) e_shBR_shT_1) = _ from p3, Option.bind_some]
    have hv : v ≤ 16 := (nI_leI (b := 16) (by omega) (by omega)).mp v3
    have era : ra m2 = upd (ra m) 4 (nI v) := by
      rw [ra_fr p4, show gI m1 1 1820 (nI v) = gI m1 1 (1816 + 4) (nI v) from rfl, ra_row, ra_fr g6]
      rfl
    have erb : rb m2 = rb m := by
      rw [rb_fr p4, show rb (gI m1 1 1820 (nI v)) = rb m1 from rfl, rb_fr g6]
      rfl
    refine y_tail (nc := nc) (nr := nr) (nk := nk) (nl := nl) (f := f ||| 1) (j := i + 2) ⟨⟨p1, p2⟩, ⟨?_, ?_, ?_⟩, ?_, f1, ?_, ?_⟩ (by omega) ((k1.tr (KM.row (r := 1820) (by omega) _)).tr p4.km)
    · rw [era, erb]; exact b1.set_odds hn (nI v)
    · rw [era]; exact b2.set_odds ⟨v, hv, rfl⟩
    · rw [era]; exact b3.up (by omega) _
    · rw [p4.2.2 20 (by omega)]
      show m1.1 0 20 = _
      rw [g6.2.2 20 (by omega)]
      exact gI_at _ _ _
    · rw [show (f ||| 1).testBit 0 = true from f2]; rfl
    · rw [show (f ||| 1).testBit 1 = f.testBit 1 from f3]; exact c4
  · rw [h1, show F_X11_number (1820 : Int32) (0 : Int32) (16 : Int32) m1 = _ from h2, Option.bind_some, Option.bind_some, if_pos zer_eq]
    exact Or.inr ⟨_, m2, rfl, by unfold f_X11_bankPart_158; rw [if_pos zer_eq], h3, k1.tr h4.km⟩
theorem x_cash (h : BP y m B n T i nc nr nk nl f) (hO : tO B (tp B i)) (hf : f.testBit 1 = false) : PO m B n T i (F_X1_readCash y) (f_X11_bankPart_45 (1 : Int32) m) := by
  obtain ⟨⟨a1, a2⟩, ⟨b1, b2, b3⟩, c1, c2, c3, c4⟩ := h
  have hn := b2.cnt
  obtain ⟨_, f1, _, _, f2, f3⟩ := bits64 ⟨f, c2⟩
  unfold F_X1_readCash f_X11_bankPart_45 f_X11_bankPart_66
  rw [c4, hf, if_neg (show ¬ (false = true) by decide), if_pos zer_eq, if_neg (show ¬ (1 : Int32) < 1 by decide), c1, or_two]
  have s1 : SY (gsub (gI y 0 3 (1 : Int32)) e_shBR_shT_1) (gI m 0 20 (nI (f ||| 2))) B n T i := a1.mv (m1 := gI m 0 20 (nI (f ||| 2))) (fun k hk => gI_of _ _ (by omega)) rfl
  obtain ⟨u1, m1, g1, g2, g3, g4, g5, g6⟩ := y_adv s1 a2 hO
  rw [g1, g2, Option.bind_some, Option.bind_some, if_neg one_ne, if_pos rfl]
  have s2 : SY (gsub (gput (gI y 0 3 (1 : Int32)) e_shBR_shT_1 u1) e_shBR_shT_1) m1 B n T (i + 1) := g3
  have k1 : KM m m1 := (KM.flag _).tr g6.km
  rcases y_num s2 g4 (0 : Int32) (9999 : Int32) (r := 1821) (by omega) with ⟨u2, m2, h1, h2, v, v1, v2, v3, p1, p2, p3, p4, p5, _⟩ | ⟨u2, m2, h1, h2, h3, h4⟩
  · rw [h1, show F_X11_number (1821 : Int32) (0 : Int32) (9999 : Int32) m1 = _ from h2, Option.bind_some, Option.bind_some, if_neg one_ne, show F_X8_passedNumber (gsub (gput (gput (gI y 0 3 (1 : Int32)) e_shBR_shT_1 u1) e_shBR_shT_1 u2) e_shBR_shT_1) = _ from p3, Option.bind_some]
    have era : ra m2 = upd (ra m) 5 (nI v) := by
      rw [ra_fr p4, show gI m1 1 1821 (nI v) = gI m1 1 (1816 + 5) (nI v) from rfl, ra_row, ra_fr g6]
      rfl
    have erb : rb m2 = rb m := by
      rw [rb_fr p4, show rb (gI m1 1 1821 (nI v)) = rb m1 from rfl, rb_fr g6]
      rfl
    refine y_tail (nc := nc) (nr := nr) (nk := nk) (nl := nl) (f := f ||| 2) (j := i + 2) ⟨⟨p1, p2⟩, ⟨?_, ?_, ?_⟩, ?_, f1, ?_, ?_⟩ (by omega) ((k1.tr (KM.row (r := 1821) (by omega) _)).tr p4.km)
    · rw [era, erb]; exact b1.set_cash hn (nI v)
    · rw [era]; exact b2.set_cash ⟨v, by omega, rfl⟩
    · rw [era]; exact b3.up (by omega) _
    · rw [p4.2.2 20 (by omega)]
      show m1.1 0 20 = _
      rw [g6.2.2 20 (by omega)]
      exact gI_at _ _ _
    · rw [show (f ||| 2).testBit 0 = f.testBit 0 from f3]; exact c3
    · rw [show (f ||| 2).testBit 1 = true from f2]; rfl
  · rw [h1, show F_X11_number (1821 : Int32) (0 : Int32) (9999 : Int32) m1 = _ from h2, Option.bind_some, Option.bind_some, if_pos zer_eq]
    exact Or.inr ⟨_, m2, rfl, by unfold f_X11_bankPart_158; rw [if_pos zer_eq], h3, k1.tr h4.km⟩
end
