section
variable {B : Nat → Nat} {n T i : Nat} {u m : GW}
theorem OK2.bb {o1 o2 : Option (Int32 × GW)} {Q : GW → GW → Prop} (h : OK2 o1 o2 m Q) : OK2 (o1.bind fun q => (if q.1 = 0 ∨ q.1 = 1 then some (q.1, q.2) else none)) (o2.bind fun q => (if q.1 = 0 ∨ q.1 = 1 then some (q.1, q.2) else none)) m Q := by
  rcases h with ⟨u', m', h1, h2, h3⟩ | ⟨u', m', h1, h2, h3⟩
  · exact Or.inl ⟨u', m', by rw [h1]; rfl, by rw [h2]; rfl, h3⟩
  · exact Or.inr ⟨u', m', by rw [h1]; rfl, by rw [h2]; rfl, h3⟩
theorem l_lt {v : Nat} (hv : v < 2147483648) (x : Int32) : (lN v < x.toInt64) = (nI v < x) := by
  rw [← nI_l hv]
  exact propext ⟨fun h => Int32.lt_iff_toInt_lt.mpr (by have := Int64.lt_iff_toInt_lt.mp h; rw [Int32.toInt_toInt64, Int32.toInt_toInt64] at this; exact this), fun h => Int64.lt_iff_toInt_lt.mpr (by rw [Int32.toInt_toInt64, Int32.toInt_toInt64]; exact Int32.lt_iff_toInt_lt.mp h)⟩
theorem l_gt {v : Nat} (hv : v < 2147483648) (x : Int32) : (x.toInt64 < lN v) = (x < nI v) := by
  rw [← nI_l hv]
  exact propext ⟨fun h => Int32.lt_iff_toInt_lt.mpr (by have := Int64.lt_iff_toInt_lt.mp h; rw [Int32.toInt_toInt64, Int32.toInt_toInt64] at this; exact this), fun h => Int64.lt_iff_toInt_lt.mpr (by rw [Int32.toInt_toInt64, Int32.toInt_toInt64]; exact Int32.lt_iff_toInt_lt.mp h)⟩
theorem y_num (h : SY u m B n T i) (hn : NE u m) (lo hi : Int32) {r : Nat} (hr : r < 2356) : OK2 (F_X8_passNumber lo hi u) (F_X11_number (nI r) lo hi m) m (fun u' m' => ∃ v, v < 10000 ∧ lo ≤ nI v ∧ nI v ≤ hi ∧ SY u' m' B n T (i + 1) ∧ NE u' m' ∧ F_X8_passedNumber u' = some (nI v) ∧ Fr (gI m 1 r (nI v)) m' ∧ PV u' B i ∧ tK B (tp B i) = 3 ∧ m.1 0 15 = nI v) := by
  have hh := h
  obtain ⟨⟨a1, a2, a3, a4⟩, _, ⟨c1, c2, c3, c4, c5⟩, ⟨d1, d2, d3, d4, d5⟩, e1, e2⟩ := h
  unfold F_X8_passNumber F_X11_number f_X8_passNumber_33 f_X11_number_30
  rw [c2, d1]
  have no : tK B (tp B i) ≠ 3 → mK B (tp B i) ≠ 3 → ∀ (X1 X2 : Option (Int32 × GW)) (Q : GW → GW → Prop), OK2 (if tK B (tp B i) = 3 then X1 else ((F_X8_failHere u).bind fun q5 => (if q5.1 = 0 ∨ q5.1 = 1 then some (q5.1, q5.2) else none))) (if mK B (tp B i) = 3 then X2 else ((F_X11_fails (2 : Int32) m).bind fun q6 => (if q6.1 = 0 ∨ q6.1 = 1 then some (q6.1, q6.2) else none))) m Q := by
    intro h1 h2 X1 X2 Q
    rw [if_neg h1, if_neg h2]
    exact (y_here hh hn Q).bb
  rcases kinds B (tp B i) with z | z | z | z | z | z | z
  · exact no (by rw [z.1]; decide) (by rw [z.2]; decide) _ _ _
  · exact no (by rw [z.1]; decide) (by rw [z.2.1]; decide) _ _ _
  · exact no (by rw [z.1]; decide) (by rw [z.2.1]; decide) _ _ _
  · exact no (by rw [z.1]; decide) (by rw [z.2.1]; decide) _ _ _
  · obtain ⟨z1, z2, z3, z4⟩ := z
    have hO : tO B (tp B i) := tK_O (Or.inr (Or.inr (Or.inl z1)))
    have f4 := fun Q => (y_fail hh hn (by rw [z1]; decide) (k := 4) (by omega) Q).bb
    have x1 : (lg_cmp (lN (nu B (tS B (tp B i)) (tL B (tp B i)))) lo.toInt64 < 0) = (nI (nu B (tS B (tp B i)) (tL B (tp B i))) < lo) := by rw [lgc_lt, l_lt (by omega)]
    have x2 : (lg_cmp (lN (nu B (tS B (tp B i)) (tL B (tp B i)))) hi.toInt64 ≤ 0) = (¬ hi < nI (nu B (tS B (tp B i)) (tL B (tp B i)))) := by rw [lgc_le, l_gt (by omega)]
    rw [if_pos z1, if_pos z2, c4 hO, z3, d4 z2]
    by_cases q : nI (nu B (tS B (tp B i)) (tL B (tp B i))) < lo
    · rw [if_pos (x1 ▸ q), if_pos q]; exact f4 _
    · rw [if_neg (x1 ▸ q), if_neg q]
      by_cases q2 : hi < nI (nu B (tS B (tp B i)) (tL B (tp B i)))
      · rw [if_neg (fun y => (x2 ▸ y : ¬ hi < nI (nu B (tS B (tp B i)) (tL B (tp B i)))) q2), if_neg (fun y => absurd q2 (Int32.not_lt.mpr y))]; exact f4 _
      · rw [if_pos (x2 ▸ q2), if_pos (Int32.not_lt.mp q2), if_pos (gin_nI hr (by omega)), nI_clamp (by omega)]
        have hm1 : SY u (gI m 1 r (nI (nu B (tS B (tp B i)) (tL B (tp B i))))) B n T i := hh.mv (fun k _ => rfl) rfl
        obtain ⟨u', m', g1, g2, g3, g4, g5, g6⟩ := y_adv hm1 hn hO
        rw [g1, g2, Option.bind_some, Option.bind_some]
        refine Or.inl ⟨u', m', rfl, rfl, _, z4, Int32.not_lt.mp q, Int32.not_lt.mp q2, g3, g4, ?_, g6, g5, z1, rfl⟩
        unfold F_X8_passedNumber
        rw [g5.1, z3, ← nI_l (by omega), Int32.toInt32_toInt64]
  · exact no (by rw [z.1]; decide) (by rw [z.2.1]; decide) _ _ _
  · exact no (by rw [z.1]; decide) (by rw [z.2]; decide) _ _ _
theorem y_semi (h : SY u m B n T i) (hn : NE u m) : OK2 (F_X8_passSemicolon u) (F_X11_wantSign (59 : Int32) m) m (fun u' m' => SY u' m' B n T (i + 1) ∧ NE u' m' ∧ Fr m m') := by
  have hh := h
  obtain ⟨⟨a1, a2, a3, a4⟩, _, ⟨c1, c2, c3, c4, c5⟩, ⟨d1, d2, d3, d4, d5⟩, e1, e2⟩ := h
  unfold F_X8_passSemicolon F_X11_wantSign F_X11_isSign f_X8_passSemicolon_19
  rw [c2, d1]
  have fl := fun Q => (y_here hh hn Q).bb
  have no : tK B (tp B i) ≠ 4 → mK B (tp B i) ≠ 4 → ∀ (X1 : Option (Int32 × GW)) (X2 : Option Int32) (Q : GW → GW → Prop), OK2 (if tK B (tp B i) = 4 then X1 else ((F_X8_failHere u).bind fun q4 => (if q4.1 = 0 ∨ q4.1 = 1 then some (q4.1, q4.2) else none))) ((if mK B (tp B i) = 4 then X2 else some (0 : Int32)).bind fun q1 => (if q1 = 0 then ((F_X11_fails (2 : Int32) m).bind fun q4 => (if q4.1 = 0 ∨ q4.1 = 1 then some (q4.1, q4.2) else none)) else ((F_X11_ahead m).bind fun q3 => (some ((1 : Int32), q3))))) m Q := by
    intro h1 h2 X1 X2 Q
    rw [if_neg h1, if_neg h2, Option.bind_some, if_pos zer_eq]
    exact fl Q
  rcases kinds B (tp B i) with z | z | z | z | z | z | z
  · exact no (by rw [z.1]; decide) (by rw [z.2]; decide) _ _ _
  · exact no (by rw [z.1]; decide) (by rw [z.2.1]; decide) _ _ _
  · exact no (by rw [z.1]; decide) (by rw [z.2.1]; decide) _ _ _
  · exact no (by rw [z.1]; decide) (by rw [z.2.1]; decide) _ _ _
  · exact no (by rw [z.1]; decide) (by rw [z.2.1]; decide) _ _ _
  · obtain ⟨z1, z2, z3, z4⟩ := z
    have hO : tO B (tp B i) := tK_O (Or.inr (Or.inr (Or.inr z1)))
    have e1 : (lN (B (tS B (tp B i))) = (59 : Int64)) = (B (tS B (tp B i)) = 59) := propext (lN_eq (a := B (tS B (tp B i))) (b := 59) (by omega) (by omega))
    have e2 : (nI (B (tS B (tp B i))) = (59 : Int32)) = (B (tS B (tp B i)) = 59) := nq_eq (b := 59) (by omega) (by omega)
    have e3 : (lg_cmp (lN (B (tS B (tp B i)))) (59 : Int64) = 0) = (B (tS B (tp B i)) = 59) := by rw [lgc_eq, e1]
    rw [if_pos z1, if_pos z2, c4 hO, z3, d5 z2]
    by_cases q : B (tS B (tp B i)) = 59
    · rw [if_pos (e3 ▸ q), if_pos (e2 ▸ q), Option.bind_some, if_neg one_ne]
      obtain ⟨u', m', g1, g2, g3, g4, g5, g6⟩ := y_adv hh hn hO
      rw [g1, g2, Option.bind_some, Option.bind_some]
      exact Or.inl ⟨u', m', rfl, rfl, g3, g4, g6⟩
    · rw [if_neg (e3 ▸ q), if_neg (e2 ▸ q), Option.bind_some, if_pos zer_eq]
      exact fl _
  · exact no (by rw [z.1]; decide) (by rw [z.2]; decide) _ _ _
/-- the word ahead, by both -/
theorem y_inw (h : SY u m B n T i) : F_X11_inWords m = some (kmap (u.1 0 2)) ∧ (u.1 0 2 = (-1 : Int32) ∨ ∃ k, k < 28 ∧ u.1 0 2 = nI k ∧ tO B (tp B i) ∧ tK B (tp B i) = 1) := by
  obtain ⟨⟨a1, a2, a3, a4⟩, _, ⟨c1, c2, c3, c4, c5⟩, ⟨d1, d2, d3, d4, d5⟩, e1, e2⟩ := h
  have wd : mK B (tp B i) = 2 → F_X11_inWords m = some (kmap (tW B (tp B i))) := fun hk =>
    m_known a3 a1 (d1.trans hk) d2 (d3 (by rw [hk]; decide)) (tE_le a1 (tp_le a1 i)) (by
      unfold tE
      by_cases q : isL (B (tS B (tp B i))) = true
      · rw [if_pos q]; exact ru_ge _
      · unfold mK at hk
        rw [if_neg q] at hk
        exfalso
        by_cases q2 : isD (B (tS B (tp B i))) = true
        · rw [if_pos q2] at hk
          by_cases q3 : 4 < tL B (tp B i)
          · rw [if_pos q3] at hk; exact absurd hk (by decide)
          · rw [if_neg q3] at hk; exact absurd hk (by decide)
        · rw [if_neg q2] at hk
          by_cases q3 : isS (B (tS B (tp B i))) = true
          · rw [if_pos q3] at hk; exact absurd hk (by decide)
          · rw [if_neg q3] at hk
            by_cases q4 : B (tS B (tp B i)) = 256
            · rw [if_pos q4] at hk; exact absurd hk (by decide)
            · rw [if_neg q4] at hk; exact absurd hk (by decide))
  have nw : mK B (tp B i) ≠ 2 → F_X11_inWords m = some (kmap (-1)) := fun hk => by
    unfold F_X11_inWords
    rw [d1, if_neg hk]
    rfl
  rcases kinds B (tp B i) with z | z | z | z | z | z | z
  · rw [c5, z.1, if_neg (by decide)]
    exact ⟨nw (by rw [z.2]; decide), Or.inl rfl⟩
  · rw [c5, z.1, if_pos rfl]
    refine ⟨wd z.2.1, ?_⟩
    rcases tW_nn B (tp B i) with y | ⟨k, y1, y2⟩
    · exact Or.inl y
    · exact Or.inr ⟨k, y1, y2, tK_O (Or.inl z.1), rfl⟩
  · rw [c5, z.1, if_neg (by decide)]
    exact ⟨by rw [wd z.2.1, z.2.2.1], Or.inl rfl⟩
  · rw [c5, z.1, if_neg (by decide)]
    exact ⟨by rw [wd z.2.1, z.2.2.1], Or.inl rfl⟩
  · rw [c5, z.1, if_neg (by decide)]
    exact ⟨nw (by rw [z.2.1]; decide), Or.inl rfl⟩
  · rw [c5, z.1, if_neg (by decide)]
    exact ⟨nw (by rw [z.2.1]; decide), Or.inl rfl⟩
  · rw [c5, z.1, if_neg (by decide)]
    exact ⟨nw (by rw [z.2]; decide), Or.inl rfl⟩
theorem kmap_in : ∀ j k : Fin 28, (kmap (nI j.val) = kmap (nI k.val)) = (j = k) := by decide +kernel
theorem kmap_no : ∀ k : Fin 28, ¬ kmap (-1) = kmap (nI k.val) := by decide +kernel
theorem kmap_eq {x : Int32} (h : x = (-1 : Int32) ∨ ∃ k, k < 28 ∧ x = nI k) {k : Nat} (hk : k < 28) : (kmap x = kmap (nI k)) = (x = nI k) := by
  rcases h with rfl | ⟨j, h1, rfl⟩
  · exact propext ⟨fun q => absurd q (kmap_no ⟨k, hk⟩), fun q => absurd q.symm (nI_nm (by omega))⟩
  · have := kmap_in ⟨j, h1⟩ ⟨k, hk⟩
    rw [show (kmap (nI j) = kmap (nI k)) = _ from this]
    exact propext ⟨fun q => by rw [show j = k from congrArg Fin.val q], fun q => Fin.ext ((nI_eq (by omega) (by omega)).mp q)⟩
theorem y_word (h : SY u m B n T i) (hn : NE u m) {k : Nat} (hk : k < 28) : OK2 (F_X8_passWord (nI k) u) (F_X11_wantWord (kmap (nI k)) m) m (fun u' m' => SY u' m' B n T (i + 1) ∧ NE u' m' ∧ Fr m m') := by
  have hw := y_inw h
  have fl := fun Q => (y_here h hn Q).bb
  unfold F_X8_passWord F_X11_wantWord
  have e : (kmap (u.1 0 2) = kmap (nI k)) = (u.1 0 2 = nI k) := kmap_eq (by rcases hw.2 with q | ⟨j, q1, q2, _⟩; exact Or.inl q; exact Or.inr ⟨j, q1, q2⟩) hk
  rw [hw.1, Option.bind_some]
  by_cases q : u.1 0 2 = nI k
  · rw [if_pos q, if_pos (e ▸ q)]
    rcases hw.2 with z | ⟨j, z1, z2, z3, z4⟩
    · rw [q] at z; exact absurd z (nI_nm (by omega))
    · obtain ⟨u', m', g1, g2, g3, g4, g5, g6⟩ := y_adv h hn z3
      rw [g1, g2, Option.bind_some, Option.bind_some]
      exact Or.inl ⟨u', m', rfl, rfl, g3, g4, g6⟩
  · rw [if_neg q, if_neg (e ▸ q)]
    exact fl _
end
