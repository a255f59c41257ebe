/-! What the plan readers ask of the token ahead. -/
def FW (w w' : GW) (s : Nat) : Prop := (∀ i k, i < 28 → (i < 2 ∨ 6 < i) → ¬ (22 ≤ i ∧ i ≤ 26 ∧ k = s) → w'.1 i k = w.1 i k) ∧ ∀ i, i < 28 → (i < 2 ∨ 6 < i) → w'.2 i = w.2 i
def FM (m m' : GW) (M : Nat) : Prop := KM m m' ∧ (∀ k, (k < 86 + 6 * M ∨ 86 + 6 * M + 6 ≤ k) → k < 454 → ra m' k = ra m k) ∧ m'.1 8 = m.1 8 ∧ ∀ k, 20 ≤ k → k ≤ 23 → m'.1 0 k = m.1 0 k
section
variable {w m : GW} {B : Nat → Nat} {n T i s r M nk nc : Nat}
theorem gfT {i : Nat} (h : i < 2 ∨ 6 < i) : gfind e_shPR_shT_2 i = none := by
  unfold e_shPR_shT_2
  simp only [gfind]
  rw [if_neg (by omega), if_neg (by omega), if_neg (by omega), if_neg (by omega), if_neg (by omega)]
  rfl
theorem gpT1 {u : GW} {i : Nat} (h : i < 2 ∨ 6 < i) : (gput w e_shPR_shT_2 u).1 i = w.1 i := by
  funext k
  show (match gfind e_shPR_shT_2 i with | some j => u.1 j k | none => w.1 i k) = w.1 i k
  rw [gfT h]
theorem gpT2 {u : GW} {i : Nat} (h : i < 2 ∨ 6 < i) : (gput w e_shPR_shT_2 u).2 i = w.2 i := by
  funext k
  show (match gfind e_shPR_shT_2 i with | some j => u.2 j k | none => w.2 i k) = w.2 i k
  rw [gfT h]
theorem FW.rf : FW w w s := ⟨fun _ _ _ _ _ => rfl, fun _ _ _ => rfl⟩
theorem FW.tr {w1 w2 : GW} (h : FW w w1 s) (g : FW w1 w2 s) : FW w w2 s := ⟨fun i k h1 h2 h3 => (g.1 i k h1 h2 h3).trans (h.1 i k h1 h2 h3), fun i h1 h2 => (g.2 i h1 h2).trans (h.2 i h1 h2)⟩
theorem FW.txt (u : GW) : FW w (gput w e_shPR_shT_2 u) s := ⟨fun i k _ h2 _ => by rw [gpT1 h2], fun i _ h2 => gpT2 h2⟩
theorem FW.put {c : Nat} (hc : 22 ≤ c ∧ c ≤ 26) (v : Int32) : FW w (gI w c s v) s := ⟨fun i k _ _ h3 => if_neg (fun z => h3 ⟨by omega, by omega, z.2⟩), fun _ _ _ => rfl⟩
theorem FM.rf : FM m m M := ⟨KM.rf, fun _ _ _ => rfl, rfl, fun _ _ _ => rfl⟩
theorem FM.tr {m1 m2 : GW} (h : FM m m1 M) (g : FM m1 m2 M) : FM m m2 M := ⟨h.1.tr g.1, fun k h1 h2 => (g.2.1 k h1 h2).trans (h.2.1 k h1 h2), g.2.2.1.trans h.2.2.1, fun k h1 h2 => (g.2.2.2 k h1 h2).trans (h.2.2.2 k h1 h2)⟩
theorem FM.fr {m' : GW} (h : Fr m m') : FM m m' M := ⟨h.km, fun k _ _ => by rw [ra_fr h], h.2.1 8 (by omega), fun k _ _ => h.2.2 k (by omega)⟩
theorem FM.row {j : Nat} (hj : j < 6) (hM : M < 61) (hr : r = 1902 + 6 * M + j) (v : Int32) : FM m (gI m 1 r v) M := by
  subst hr
  refine ⟨KM.row (by omega) v, fun k h1 _ => ?_, rfl, fun _ _ _ => rfl⟩
  rw [ra_at (k := 86 + 6 * M + j) (by omega), pk_un (by omega)]
theorem put_eq {a0 : Nat} (hs : s < 30) (v : Int32) : F_X6_put a0 (nI s) v w = some (1, gI w a0 s v) := by
  unfold F_X6_put
  rw [if_neg (nI_pos (by omega)), if_neg (nI_geL hs (by omega)), if_pos (gin_nI hs (by omega)), nI_clamp (by omega)]
theorem r_much (h : SY (gsub w e_shPR_shT_2) m B n T i) (hn : NE (gsub w e_shPR_shT_2) m) (hs : s < 30) (lo hi : Int32) (hr : r < 2356) :
    (∃ w' m' u' v, F_X6_readMuch (nI s) lo hi w = some (1, w') ∧ F_X11_number (nI r) lo hi m = some (1, m') ∧ (SY (gsub w' e_shPR_shT_2) m' B n T (i + 1) ∧ NE (gsub w' e_shPR_shT_2) m') ∧ w' = gI (gput w e_shPR_shT_2 u') 24 s (nI v) ∧ Fr (gI m 1 r (nI v)) m' ∧ lo ≤ nI v ∧ nI v ≤ hi ∧ v < 10000) ∨
    (∃ w' m', F_X6_readMuch (nI s) lo hi w = some (0, w') ∧ F_X11_number (nI r) lo hi m = some (0, m') ∧ FE (gsub w' e_shPR_shT_2) m' ∧ Fk m m') := by
  unfold F_X6_readMuch
  rcases y_num h hn lo hi hr with ⟨u2, m2, h1, h2, v, v1, v2, v3, p1, p2, p3, p4, p5, _⟩ | ⟨u2, m2, h1, h2, h3, h4⟩
  · rw [h1, h2, Option.bind_some, if_neg one_ne, show F_X8_passedNumber (gsub (gput w e_shPR_shT_2 u2) e_shPR_shT_2) = _ from p3, Option.bind_some, put_eq hs, Option.bind_some, if_neg one_ne]
    exact Or.inl ⟨_, m2, u2, v, rfl, rfl, ⟨p1, p2⟩, rfl, p4, v2, v3, v1⟩
  · rw [h1, h2]
    exact Or.inr ⟨_, m2, rfl, rfl, h3, h4⟩
theorem r_name {a1 : Nat} (ha : a1 = 22 ∨ a1 = 23) (h : SY (gsub w e_shPR_shT_2) m B n T i) (hn : NE (gsub w e_shPR_shT_2) m) (hs : s < 30) (hr : 454 ≤ r ∧ r < 2356) (h6 : nk ≤ 6) (hk : w.1 7 5 = nI nk ∧ m.1 1 2 = nI nk) (hnm : ∀ k, k < nk → nmR (w.2 11 k) (m.2 2 k)) :
    (∃ w' m' u' c, F_X6_readName a1 (nI s) w = some (1, w') ∧ F_X11_clerkTo (nI r) m = some (1, m') ∧ (SY (gsub w' e_shPR_shT_2) m' B n T (i + 1) ∧ NE (gsub w' e_shPR_shT_2) m') ∧ w' = gI (gput w e_shPR_shT_2 u') a1 s (nI c) ∧ Fr (gI m 1 r (nI c)) m' ∧ c < nk) ∨
    (∃ w' m' v, F_X6_readName a1 (nI s) w = some (0, w') ∧ F_X11_clerkTo (nI r) m = some (0, m') ∧ FE (gsub w' e_shPR_shT_2) m' ∧ (Fk m m' ∨ Fk (gI m 1 r v) m')) := by
  unfold F_X6_readName F_X11_clerkTo F_X8_passName
  rw [m_isName h, Option.bind_some, ite01, show (gsub w e_shPR_shT_2).1 0 1 = tK B (tp B i) from h.2.2.1.2.1]
  by_cases k2 : tK B (tp B i) = 2
  rotate_left
  · rw [if_neg k2, if_neg k2]
    rcases y_here h hn (fun _ _ => False) with ⟨_, _, _, _, z⟩ | ⟨u', m', h1, h2, h3, h4⟩
    · exact z.elim
    · rw [h1, h2]
      exact Or.inr ⟨_, m', 0, rfl, rfl, h3, Or.inl h4⟩
  have kn := t_name k2
  rw [if_pos k2, if_pos k2, hk.2]
  obtain ⟨rr, q1, q2, q3⟩ : ∃ rr : Int32, (rr = (-1 : Int32) ∨ ∃ c, c < nk ∧ rr = nI c) ∧ F_X11_findHere m (0 : Int32) (nI nk) = some rr ∧ (∀ u', u'.2 0 3 = tV B (tp B i) → F_X0_clerkNamed (gsub (gput w e_shPR_shT_2 u') e_shPR_shB_7) (u'.2 0 3) = some rr) := by
    obtain ⟨rr, r1, r2, r3⟩ := find_both (m := m) (w := gsub w e_shPR_shB_7) (b := 0) (nk := nk) (y_nameHere h k2) kn.1 hk.1 h6 (by omega) (fun k hk2 => by rw [Nat.zero_add]; exact hnm k hk2)
    refine ⟨rr, r3, r2, fun u' e => ?_⟩
    rw [e, ← r1]
    unfold F_X0_clerkNamed
    have hF := FU_big
    exact (show f_X0_clerkNamed_2 (gsub (gput w e_shPR_shT_2 u') e_shPR_shB_7) FU (tV B (tp B i)) (nI 0) = _ from x_named_l (w := gsub (gput w e_shPR_shT_2 u') e_shPR_shB_7) (nk := nk) (tV B (tp B i)) hk.1 h6 nk FU 0 (by omega) (by omega)).trans (x_named_l (w := gsub w e_shPR_shB_7) (nk := nk) (tV B (tp B i)) hk.1 h6 nk FU 0 (by omega) (by omega)).symm
  rw [q2, Option.bind_some, if_pos (gin_nI hr.2 (by omega)), nI_clamp (by omega), gI_same]
  have hm1 : SY (gsub w e_shPR_shT_2) (gI m 1 r rr) B n T i := h.mv (fun _ _ => rfl) rfl
  obtain ⟨u1, m1, g1, g2, g3, g4, g5, g6⟩ := y_adv hm1 hn (tK_O (Or.inr (Or.inl k2)))
  rw [g1, Option.bind_some, Option.bind_some, if_neg one_ne, q3 u1 g5.1, Option.bind_some]
  rcases q1 with rfl | ⟨c, hc, rfl⟩
  · rw [if_pos rfl, if_pos rfl]
    obtain ⟨u', m', h1, h2, h3, h4⟩ := y_fpass hm1 hn (by rw [kn.2.1]; decide) (u' := gsub (gput w e_shPR_shT_2 u1) e_shPR_shT_2) g3.2.2.2.2.1 g5.2 (k := 3) (by omega)
    rw [show F_X8_failPassed (3 : Int32) (gsub (gput w e_shPR_shT_2 u1) e_shPR_shT_2) = _ from h1, show F_X11_fails (3 : Int32) (gI m 1 r (-1)) = _ from h2]
    exact Or.inr ⟨_, m', -1, rfl, rfl, h3, Or.inr h4⟩
  · rw [if_neg (nI_nm (by omega)), if_neg (nI_nm (by omega)), put_eq hs, Option.bind_some, g2, Option.bind_some]
    refine Or.inl ⟨_, m1, u1, c, rfl, rfl, ?_, rfl, g6, hc⟩
    rcases ha with rfl | rfl
    · exact ⟨g3, g4⟩
    · exact ⟨g3, g4⟩
theorem tS_sign {p : Nat} (h : mK B p = 4) : B (tS B p) = 59 ∨ B (tS B p) = 60 ∨ B (tS B p) = 62 ∨ B (tS B p) = 61 := by
  by_cases q : isL (B (tS B p)) = true
  · unfold mK at h
    rw [if_pos q] at h
    exact absurd h (by decide)
  · unfold mK at h
    rw [if_neg q] at h
    by_cases q2 : isD (B (tS B p)) = true
    · rw [if_pos q2] at h
      by_cases q3 : 4 < tL B p
      · rw [if_pos q3] at h; exact absurd h (by decide)
      · rw [if_neg q3] at h; exact absurd h (by decide)
    · rw [if_neg q2] at h
      by_cases q3 : isS (B (tS B p)) = true
      · exact of_decide_eq_true (show decide (B (tS B p) = 59 ∨ B (tS B p) = 60 ∨ B (tS B p) = 62 ∨ B (tS B p) = 61) = true from q3)
      · rw [if_neg q3] at h
        by_cases q4 : B (tS B p) = 256
        · rw [if_pos q4] at h; exact absurd h (by decide)
        · rw [if_neg q4] at h; exact absurd h (by decide)
/-- a sign of comparing, and what it compares with -/
def tsK (k : Nat) : Int32 := if k = 1 then 1 else if k = 2 then 4 else 24
def tsM (k : Nat) : Int32 := if k = 1 then 1 else if k = 2 then 3 else 27
def tsX (k : Nat) : Int32 := if k = 1 then 9999 else if k = 2 then 5 else 99
theorem r_cmp {k : Nat} (hk : k = 1 ∨ k = 2 ∨ k = 3) (h : SY (gsub w e_shPR_shT_2) m B n T i) (hn : NE (gsub w e_shPR_shT_2) m) (hs : s < 30) (hM : M < 60) :
    (∃ w' m' u1 u2 g v m1, f_X6_readTest_74 (nI s) (tsK k) w = some (1, w') ∧ f_X11_test_61 (nI (1902 + 6 * M)) (tsM k) m = some (1, m') ∧ (SY (gsub w' e_shPR_shT_2) m' B n T (i + 1 + 1) ∧ NE (gsub w' e_shPR_shT_2) m') ∧ w' = gI (gput (gI (gput w e_shPR_shT_2 u1) 26 s g) e_shPR_shT_2 u2) 24 s (nI v) ∧ Fr (gI m 1 (1902 + 6 * M + 5) g) m1 ∧ Fr (gI m1 1 (1902 + 6 * M + 2) (nI v)) m') ∨
    (∃ w' m', f_X6_readTest_74 (nI s) (tsK k) w = some (0, w') ∧ f_X11_test_61 (nI (1902 + 6 * M)) (tsM k) m = some (0, m') ∧ FE (gsub w' e_shPR_shT_2) m' ∧ KM m m') := by
  have hh := h
  obtain ⟨⟨a1, a2, a3, a4⟩, _, ⟨c1, c2, c3, c4, c5⟩, ⟨d1, d2, d3, d4, d5⟩, e1, e2⟩ := h
  have fl := y_here hh hn (fun _ _ => False)
  have no : ∀ (o1 o2 : Option (Int32 × GW)), o1 = (((F_X8_failHere (gsub w e_shPR_shT_2)).bind fun q4 => (if q4.1 = 0 ∨ q4.1 = 1 then some (q4.1, q4.2) else none)).bind fun q11 => (if q11.1 = 0 then (some ((0 : Int32), (gput w e_shPR_shT_2 q11.2))) else ((F_X8_passedNumber (gsub (gput w e_shPR_shT_2 q11.2) e_shPR_shT_2)).bind fun q13 => ((F_X6_put 26 (nI s) q13 (gput w e_shPR_shT_2 q11.2)).bind fun q14 => ((F_X6_mostTested (tsK k)).bind fun q15 => ((F_X6_readMuch (nI s) (0 : Int32) q15 q14.2).bind fun q16 => (if q16.1 = 0 ∨ q16.1 = 1 then some (q16.1, q16.2) else none))))))) → o2 = ((F_X11_fails (2 : Int32) m).bind fun q18 => (if q18.1 = 0 ∨ q18.1 = 1 then some (q18.1, q18.2) else none)) → ∃ w' m', o1 = some (0, w') ∧ o2 = some (0, m') ∧ FE (gsub w' e_shPR_shT_2) m' ∧ KM m m' := by
    intro o1 o2 h1 h2
    rcases fl with ⟨_, _, _, _, z⟩ | ⟨u', m', j1, j2, j3, j4⟩
    · exact z.elim
    · rw [j1] at h1
      rw [j2] at h2
      exact ⟨_, m', h1, h2, j3, j4.km⟩
  have isn : mK B (tp B i) ≠ 4 → ∀ x : Int32, F_X11_isSign m x = some 0 := by
    intro hk x
    unfold F_X11_isSign
    rw [d1, if_neg hk]
  have fails : tK B (tp B i) ≠ 4 → mK B (tp B i) ≠ 4 → ∃ w' m', f_X6_readTest_74 (nI s) (tsK k) w = some (0, w') ∧ f_X11_test_61 (nI (1902 + 6 * M)) (tsM k) m = some (0, m') ∧ FE (gsub w' e_shPR_shT_2) m' ∧ KM m m' := by
    intro hk1 hk2
    refine no _ _ ?_ ?_
    · unfold f_X6_readTest_74 F_X8_passCompare f_X8_passCompare_19
      rw [c2, if_neg hk1]
    · unfold f_X11_test_61
      rw [isn hk2, isn hk2, isn hk2, Option.bind_some, if_pos zer_eq, Option.bind_some, if_pos zer_eq, Option.bind_some, if_pos zer_eq]
  rcases kinds B (tp B i) with z | z | z | z | z | z | z
  · exact Or.inr (fails (by rw [z.1]; decide) (by rw [z.2]; decide))
  · exact Or.inr (fails (by rw [z.1]; decide) (by rw [z.2.1]; decide))
  · exact Or.inr (fails (by rw [z.1]; decide) (by rw [z.2.1]; decide))
  · exact Or.inr (fails (by rw [z.1]; decide) (by rw [z.2.1]; decide))
  · exact Or.inr (fails (by rw [z.1]; decide) (by rw [z.2.1]; decide))
  · obtain ⟨z1, z2, z3, z4⟩ := z
    have hO : tO B (tp B i) := tK_O (Or.inr (Or.inr (Or.inr z1)))
    have sg := tS_sign z2
    have e3 : (lg_cmp (lN (B (tS B (tp B i)))) (59 : Int64) = 0) = (B (tS B (tp B i)) = 59) := by
      rw [lgc_eq]
      exact propext (lN_eq (a := B (tS B (tp B i))) (b := 59) (by omega) (by omega))
    have ei : ∀ t, t < 128 → F_X11_isSign m (nI t) = some (if B (tS B (tp B i)) = t then 1 else 0) := by
      intro t ht
      unfold F_X11_isSign
      rw [d1, if_pos z2, d5 z2]
      by_cases q : B (tS B (tp B i)) = t
      · rw [if_pos (by rw [q]), if_pos q]
      · rw [if_neg (fun y => q ((nI_eq (by omega) (by omega)).mp y)), if_neg q]
    by_cases q : B (tS B (tp B i)) = 59
    · refine Or.inr (no _ _ ?_ ?_)
      · unfold f_X6_readTest_74 F_X8_passCompare f_X8_passCompare_19
        rw [c2, if_pos z1, c4 hO, z3, if_pos (e3 ▸ q)]
      · unfold f_X11_test_61
        rw [show F_X11_isSign m (60 : Int32) = _ from ei 60 (by omega), show F_X11_isSign m (62 : Int32) = _ from ei 62 (by omega), show F_X11_isSign m (61 : Int32) = _ from ei 61 (by omega), q, Option.bind_some, if_neg (show ¬ (59 : Nat) = 60 by decide), if_pos zer_eq, Option.bind_some, if_neg (show ¬ (59 : Nat) = 62 by decide), if_pos zer_eq, Option.bind_some, if_neg (show ¬ (59 : Nat) = 61 by decide), if_pos zer_eq]
    · have e94 : f_X11_test_61 (nI (1902 + 6 * M)) (tsM k) m = f_X11_test_94 (nI (1902 + 6 * M)) (tsM k) m := by
        unfold f_X11_test_61
        rw [show F_X11_isSign m (60 : Int32) = _ from ei 60 (by omega), show F_X11_isSign m (62 : Int32) = _ from ei 62 (by omega), show F_X11_isSign m (61 : Int32) = _ from ei 61 (by omega), Option.bind_some, Option.bind_some, Option.bind_some]
        rcases sg with sg | sg | sg | sg
        · exact absurd sg q
        · rw [if_pos sg, if_neg one_ne]
        · rw [if_neg (show ¬ B (tS B (tp B i)) = 60 by omega), if_pos zer_eq, if_pos sg, if_neg one_ne]
        · rw [if_neg (show ¬ B (tS B (tp B i)) = 60 by omega), if_pos zer_eq, if_neg (show ¬ B (tS B (tp B i)) = 62 by omega), if_pos zer_eq, if_pos sg, if_neg one_ne]
      have hm1 : SY (gsub w e_shPR_shT_2) (gI m 1 (1902 + 6 * M + 5) (nI (B (tS B (tp B i))))) B n T i := hh.mv (fun _ _ => rfl) rfl
      obtain ⟨u1, m1, g1, g2, g3, g4, g5, g6⟩ := y_adv hm1 hn hO
      have ex : f_X6_readTest_74 (nI s) (tsK k) w = ((F_X6_readMuch (nI s) (0 : Int32) (tsX k) (gI (gput w e_shPR_shT_2 u1) 26 s (nI (B (tS B (tp B i)))))).bind fun q16 => (if q16.1 = 0 ∨ q16.1 = 1 then some (q16.1, q16.2) else none)) := by
        unfold f_X6_readTest_74 F_X8_passCompare
        rw [c2, if_pos z1, c4 hO, z3, if_neg (e3 ▸ q), g1, Option.bind_some, Option.bind_some, if_neg one_ne]
        unfold F_X8_passedNumber
        rw [Option.bind_some, show (gsub (gput w e_shPR_shT_2 u1) e_shPR_shT_2).2 0 3 = tV B (tp B i) from g5.1, z3, ← nI_l (by omega), Int32.toInt32_toInt64, put_eq hs, Option.bind_some]
        unfold F_X6_mostTested
        rcases hk with rfl | rfl | rfl
        · rfl
        · rfl
        · rfl
      have em : f_X11_test_94 (nI (1902 + 6 * M)) (tsM k) m = ((F_X11_number (nI (1902 + 6 * M + 2)) (0 : Int32) (tsX k) m1).bind fun q24 => (if q24.1 = 0 ∨ q24.1 = 1 then some (q24.1, q24.2) else none)) := by
        unfold f_X11_test_94 f_X11_test_137
        rw [nq_addL, nq_addL, if_pos (gin_nI (by show 1902 + 6 * M + 5 < 2356; omega) (by omega)), nI_clamp (n := 1902 + 6 * M + OfNat.ofNat 5) (by show 1902 + 6 * M + 5 < _; omega), d5 z2, show F_X11_ahead (gI m 1 (1902 + 6 * M + OfNat.ofNat 5) (nI (B (tS B (tp B i))))) = _ from g2, Option.bind_some]
        rcases hk with rfl | rfl | rfl
        · rfl
        · rfl
        · rfl
      have g3' : SY (gsub (gI (gput w e_shPR_shT_2 u1) 26 s (nI (B (tS B (tp B i))))) e_shPR_shT_2) m1 B n T (i + 1) := g3
      have g4' : NE (gsub (gI (gput w e_shPR_shT_2 u1) 26 s (nI (B (tS B (tp B i))))) e_shPR_shT_2) m1 := g4
      rcases r_much g3' g4' hs (0 : Int32) (tsX k) (r := 1902 + 6 * M + 2) (by omega) with ⟨w', m', u', v, j1, j2, j3, j4, j5, _⟩ | ⟨w', m', j1, j2, j3, j4⟩
      · refine Or.inl ⟨w', m', u1, u', nI (B (tS B (tp B i))), v, m1, ?_, ?_, j3, j4, g6, j5⟩
        · rw [ex, j1]; rfl
        · rw [e94, em, j2]; rfl
      · refine Or.inr ⟨w', m', ?_, ?_, j3, ((KM.row (r := 1902 + 6 * M + 5) (by omega) _).tr g6.km).tr j4.km⟩
        · rw [ex, j1]; rfl
        · rw [e94, em, j2]; rfl
  · exact Or.inr (fails (by rw [z.1]; decide) (by rw [z.2]; decide))
end
