/-! The text of a plan. -/
section
variable {w m : GW} {B : Nat → Nat} {n T i s M nk nc : Nat}
theorem d_end (h : DP w m B n T i M nc nk) (he : w.1 2 2 = (26 : Int32)) : DO m B n T i nc nk (F_X6_readEnd w) (F_X11_decadeStep m) := by
  have hw := y_inw h.1.1
  have hw1 : F_X11_inWords m = some (kmap (w.1 2 2)) := hw.1
  have hw2 : w.1 2 2 = (-1 : Int32) ∨ ∃ k, k < 28 ∧ w.1 2 2 = nI k ∧ tO B (tp B i) ∧ tK B (tp B i) = 1 := hw.2
  have hO : tO B (tp B i) := by
    rcases hw2 with z | ⟨k, _, _, z, _⟩
    · rw [he] at z; exact absurd z (by decide)
    · exact z
  have hh := h
  obtain ⟨⟨a1, a2⟩, a3, a4, a5, ⟨a6, a7⟩, ⟨a8, a9⟩, a10⟩ := h
  have hL3 := a4.2.2.1 M (Nat.le_refl M)
  unfold F_X6_readEnd F_X11_decadeStep
  rw [hw1, Option.bind_some, he, show kmap 26 = (25 : Int32) by decide, if_neg (show ¬ (25 : Int32) = 23 by decide), if_neg (show ¬ (25 : Int32) = 24 by decide), a5, nq_Lmul, nq_Ladd, show (OfNat.ofNat 1902 + OfNat.ofNat 6 * M : Nat) = 1902 + 6 * M from rfl]
  unfold f_X11_decadeStep_42
  rw [if_neg (show ¬ (25 : Int32) < 15 by decide), if_neg (show ¬ (26 : Int32) < 25 by decide), if_pos (show (25 : Int32) = 25 from rfl)]
  rw [a8, a9]
  cases hst : skN (rK (ra m)) M with
  | nil =>
    rw [show ([] : List Nat).length = 0 from rfl, if_pos (show nI 0 ≤ (0 : Int32) by decide), if_pos (show nI 0 = (0 : Int32) by decide)]
    exact d_here hh
  | cons o l =>
    rw [hst] at a8 a9 a10 hL3
    have hlen : (o :: l).length = l.length + 1 := rfl
    rw [hlen] at a8 a9 hL3 ⊢
    have hmem := skN_mem M o (by rw [hst]; exact List.mem_cons_self)
    have hsL := a4.2.1
    rw [hst, hlen] at hsL
    have hs := a4.1
    have hM : M < 60 := by omega
    have hro : rkN (rK (ra m)) o < rkN (rK (ra m)) M := rkN_lt hmem.1 (op_25n hmem.2)
    generalize hsd : rkN (rK (ra m)) M = s at *
    obtain ⟨M0, q1, q2, q3, q4, q5, q6, q7, q8, q9⟩ := m_row0 (x1 := 25) (x4 := 0) (s0 := 0) (s1 := nI s) hM a5
    rw [if_neg (nI_nlz (by omega) (by omega)), if_pos (nI_leR (by show l.length + 1 ≤ 3; omega) (by omega)), show nI (l.length + 1) - (1 : Int32) = nI l.length from nI_pred _, if_pos (gin_nI (by omega) (by omega)), nI_clamp (by omega), if_neg (nI_nz (by omega) (by omega)), a10.2.1]
    unfold f_X11_decadeStep_75 f_X11_decadeStep_97 f_X11_decadeStep_117
    rw [if_pos (show (25 : Int32) = 25 from rfl), if_pos zer_eq, if_pos (show (25 : Int32) = 25 from rfl), a7, q1]
    have hcl : F_X5_closeHere (nI (rkN (rK (ra m)) o)) (gsub (gI w 0 4 (nI l.length)) e_shPR_shP_20) = some (gI (gsub (gI w 0 4 (nI l.length)) e_shPR_shP_20) 7 (rkN (rK (ra m)) o) (nI s)) := by
      unfold F_X5_closeHere F_X5_hasStep
      rw [if_neg (nI_pos (by omega)), show (gsub (gI w 0 4 (nI l.length)) e_shPR_shP_20).1 0 1 = nI s from a6, if_neg (nI_ge hro (by omega)), if_neg (nI_geL (by omega) (by omega)), Option.bind_some, if_neg one_ne, if_pos (gin_nI (by omega) (by omega)), nI_clamp (by omega)]
    rw [hcl, Option.bind_some]
    have s0 : SY (gsub (gput (gI w 0 4 (nI l.length)) e_shPR_shP_20 (gI (gsub (gI w 0 4 (nI l.length)) e_shPR_shP_20) 7 (rkN (rK (ra m)) o) (nI s))) e_shPR_shT_2) M0 B n T i := SY.mv (u := gsub w e_shPR_shT_2) a1 (fun k hk => q4 k (by omega)) (q3 7 (by omega) (by omega))
    have n0 : NE (gsub (gput (gI w 0 4 (nI l.length)) e_shPR_shP_20 (gI (gsub (gI w 0 4 (nI l.length)) e_shPR_shP_20) 7 (rkN (rK (ra m)) o) (nI s))) e_shPR_shT_2) M0 := ⟨a2.1, a2.2.1, (q4 18 (by omega)).trans a2.2.2.1, (q4 17 (by omega)).trans a2.2.2.2⟩
    obtain ⟨u1, m1, g1, g2, g3, g4, g5, g6⟩ := y_adv s0 n0 hO
    rw [g1, g2, Option.bind_some, Option.bind_some]
    have e7 : E7 (25 : Int32) (nI M) (nI (1902 + 6 * M)) (0 : Int32) m1 = f_X11_decadeStep_222 (25 : Int32) (nI M) (nI (1902 + 6 * M)) m1 := by
      unfold E7 F_X11_decadeOrder
      rw [if_neg (by decide), if_neg (by decide), if_neg (by decide), if_neg (by decide), if_neg (by decide), if_neg (by decide), if_neg (by decide), if_neg (by decide), if_neg (by decide), if_neg (by decide), Option.bind_some, if_neg one_ne, if_pos zer_eq]
    have h22 : m1.1 0 22 = nI (l.length + 1) := by rw [g6.2.2 22 (by omega), q4 22 (by omega)]; exact a9
    have h8 : m1.1 8 = m.1 8 := by rw [g6.2.1 8 (by omega), q3 8 (by omega) (by omega)]
    rw [e7]
    unfold f_X11_decadeStep_222
    rw [if_pos (show (25 : Int32) = 25 from rfl), h22, show nI (l.length + 1) - (1 : Int32) = nI l.length from nI_pred _, if_pos (gin_nI (by omega) (by omega)), nq_addL, if_pos (gin_nI (by show 1902 + 6 * M + 4 < 2356; omega) (by omega)), nI_clamp (n := l.length) (by omega), h8, a10.1, nq_Lmul, nq_Ladd, nq_addL, if_pos (gin_nI (by show 1902 + 6 * o + 4 < 2356; omega) (by omega)), nI_clamp (n := 1902 + 6 * M + OfNat.ofNat 4) (by show 1902 + 6 * M + 4 < _; omega), nI_clamp (n := OfNat.ofNat 1902 + OfNat.ofNat 6 * o + OfNat.ofNat 4) (by show 1902 + 6 * o + 4 < _; omega), show (OfNat.ofNat 1902 + OfNat.ofNat 6 * o + OfNat.ofNat 4 : Nat) = 1902 + 6 * o + 4 from rfl, show (1902 + 6 * M + OfNat.ofNat 4 : Nat) = 1902 + 6 * M + 4 from rfl]
    generalize hW : gput (gput (gI w 0 4 (nI l.length)) e_shPR_shP_20 (gI (gsub (gI w 0 4 (nI l.length)) e_shPR_shP_20) 7 (rkN (rK (ra m)) o) (nI s))) e_shPR_shT_2 u1 = W at *
    have w7 : ∀ i k, 1 ≤ i → i ≤ 7 → ¬ (i = 7 ∧ k = rkN (rK (ra m)) o) → W.1 (20 + i) k = (gsub w e_shPR_shP_20).1 i k := by
      intro i k h1 h2 h3
      rw [← hW, gpT1 (by omega)]
      have e9 : (gI (gsub (gI w 0 4 (nI l.length)) e_shPR_shP_20) 7 (rkN (rK (ra m)) o) (nI s)).1 i k = (gsub w e_shPR_shP_20).1 i k := by
        rw [gI_ne _ _ _ _ h3]
        rcases (show i = 1 ∨ i = 2 ∨ i = 3 ∨ i = 4 ∨ i = 5 ∨ i = 6 ∨ i = 7 by omega) with rfl | rfl | rfl | rfl | rfl | rfl | rfl <;> rfl
      rcases (show i = 1 ∨ i = 2 ∨ i = 3 ∨ i = 4 ∨ i = 5 ∨ i = 6 ∨ i = 7 by omega) with rfl | rfl | rfl | rfl | rfl | rfl | rfl <;> exact e9
    have w27 : W.1 27 (rkN (rK (ra m)) o) = nI s := by
      rw [← hW, gpT1 (by omega)]
      exact gI_same _ _ _ _
    have w20 : W.1 20 1 = nI s := by rw [← hW, gpT1 (by omega)]; exact a6
    have w04 : W.1 0 4 = nI l.length := by
      rw [← hW, gpT1 (by omega)]
      show (gI w 0 4 (nI l.length)).1 0 4 = _
      exact gI_same _ _ _ _
    have w01 : W.1 1 = w.1 1 := by rw [← hW, gpT1 (by omega)]; rfl
    have wB : W.1 7 = w.1 7 ∧ W.2 11 = w.2 11 := ⟨by rw [← hW, gpT1 (by omega)]; rfl, by rw [← hW, gpT2 (by omega)]; rfl⟩
    have km1 : KM m m1 := q9.tr g6.km
    have km2 : KM m (gI (gI (gI m1 0 22 (nI l.length)) 1 (1902 + 6 * M + 4) (nI o)) 1 (1902 + 6 * o + 4) (nI M)) := ((km1.tr (⟨fun k hk => if_neg (by omega), fun i h1 _ _ _ => funext fun q => if_neg (fun z => h1 z.1), fun _ _ => rfl, fun _ _ => rfl, fun _ _ => rfl⟩ : KM m1 (gI m1 0 22 (nI l.length)))).tr (KM.row (r := 1902 + 6 * M + 4) (by omega) _)).tr (KM.row (r := 1902 + 6 * o + 4) (by omega) _)
    have s2 : SY (gsub W e_shPR_shT_2) (gI (gI (gI m1 0 22 (nI l.length)) 1 (1902 + 6 * M + 4) (nI o)) 1 (1902 + 6 * o + 4) (nI M)) B n T (i + 1) := by
      rw [← hW]
      exact SY.mv (m := m1) g3 (fun k hk => gI_of _ _ (by omega)) rfl
    have n2 : NE (gsub W e_shPR_shT_2) (gI (gI (gI m1 0 22 (nI l.length)) 1 (1902 + 6 * M + 4) (nI o)) 1 (1902 + 6 * o + 4) (nI M)) := by
      rw [← hW]
      exact g4
    rcases d_semi s2 n2 with ⟨u, m3, e1, e2, e3, e4, e5⟩ | ⟨u, m3, e1, e2, e3, e4⟩
    · rw [e1, e2]
      have era : ra m3 = upd (upd (ra m1) (86 + 6 * M + 4) (nI o)) (86 + 6 * o + 4) (nI M) := by
        rw [ra_fr e5, ra_at (k := 86 + 6 * o + 4) (by omega), ra_at (k := 86 + 6 * M + 4) (by omega)]
        rfl
      have er1 : ∀ c, c ≠ 7 → (c < 86 + 6 * M ∨ 86 + 6 * M + 6 ≤ c) → ra m1 c = ra m c := fun c h1 h2 => by rw [ra_fr g6, q8 c h1 h2]
      have psh := Pr.pop (p' := gsub (gput W e_shPR_shT_2 u) e_shPR_shP_20) (a' := ra m3) a4 (s := s) hst hsd.symm (fun i c h1 h2 h3 h4 => by
          have e9 : (gput W e_shPR_shT_2 u).1 (20 + i) c = (gsub w e_shPR_shP_20).1 i c := by
            rw [gpT1 (by omega)]
            exact w7 i c h1 h2 h4
          rcases (show i = 1 ∨ i = 2 ∨ i = 3 ∨ i = 4 ∨ i = 5 ∨ i = 6 ∨ i = 7 by omega) with rfl | rfl | rfl | rfl | rfl | rfl | rfl <;> exact e9) (show (gput W e_shPR_shT_2 u).1 27 _ = _ by rw [gpT1 (by omega)]; exact w27) (fun c h1 h2 h3 => by
          rw [era, pk_un h3, pk_un (by omega)]
          exact er1 c (by omega) (by omega)) (by rw [era, pk_us]) (by rw [era, pk_un (by omega), pk_un (by omega), ra_fr g6]; exact q7) (by rw [era, pk_un (by omega), pk_us])
      obtain ⟨v1, v2, v3, v4⟩ := psh
      refine Or.inl ⟨gput W e_shPR_shT_2 u, m3, M + 1, i + 1 + 1, rfl, rfl, ⟨⟨e3, e4⟩, ⟨⟨a3.1.1, ?_, ?_⟩, ⟨a3.2.1.1, ?_, ?_⟩, fun k hk => ?_⟩, v1, ?_, ⟨?_, ?_⟩, ⟨?_, ?_⟩, ?_⟩, by omega, km2.tr e5.km⟩
      · rw [gpT1 (by omega), wB.1]; exact a3.1.2.1
      · rw [(km2.tr e5.km).2.2.1 2 (by omega)]; exact a3.1.2.2
      · rw [gpT1 (by omega), wB.1]; exact a3.2.1.2.1
      · rw [(km2.tr e5.km).2.2.1 0 (by omega)]; exact a3.2.1.2.2
      · rw [gpT2 (by omega), wB.2, (km2.tr e5.km).2.2.2.2 k (by have := a3.1.1; omega)]; exact a3.2.2 k hk
      · show ra m3 7 = _
        rw [era, pk_un (by omega), pk_un (by omega), ra_fr g6]; exact q6
      · rw [v2, gpT1 (by omega)]; exact w20
      · rw [v2, e5.2.2 23 (by omega)]
        show m1.1 0 23 = _
        rw [g6.2.2 23 (by omega), q5]
        show nI s + nI 0 = nI s
        rw [nI_add]
        rfl
      · rw [v3, gpT1 (by omega)]; exact w04
      · rw [v3, e5.2.2 22 (by omega)]
        show (gI m1 0 22 (nI l.length)).1 0 22 = _
        exact gI_at _ _ _
      · rw [v3]
        refine StR.congr l (fun d hd => ⟨?_, ?_⟩) (fun o' hm => ?_) a10.2.2
        · rw [e5.2.1 8 (by omega)]
          show m1.1 8 d = _
          rw [h8]
        · rw [gpT1 (by omega), w01]
        · have := skN_mem M o' (by rw [hst]; exact List.mem_cons_of_mem _ hm)
          exact v4 o' (by omega)
    · rw [e1, e2]
      exact Or.inr ⟨_, m3, rfl, rfl, e3, km2.tr e4⟩
end
section
variable {B : Nat → Nat} {n T nk nc : Nat}
/-- all is read: a plan, or what is amiss -/
def DE (m : GW) (nk nc : Nat) (o1 o2 : Option (Int32 × GW)) : Prop :=
  (∃ w' m' M, o1 = some (1, w') ∧ o2 = f_X11_decades_77 m' ∧ (w'.1 2 0 = 0 ∧ m'.1 0 10 = 0 ∧ NE (gsub w' e_shPR_shT_2) m') ∧ (Pr (gsub w' e_shPR_shP_20) (ra m') nk nc M ∧ m'.1 1 1823 = nI M ∧ w'.1 20 0 = 1 ∧ w'.1 20 1 = nI (rkN (rK (ra m')) M) ∧ m'.1 0 23 = nI (rkN (rK (ra m')) M) ∧ skN (rK (ra m')) M = []) ∧ KM m m') ∨
  (∃ w' m', o1 = some (0, w') ∧ o2 = f_X11_decades_77 m' ∧ FE (gsub w' e_shPR_shT_2) m' ∧ KM m m')
theorem d_last {w m : GW} {i M : Nat} (h : DP w m B n T i M nc nk) : DE m nk nc (f_X6_readSteps_67 w) (f_X11_decades_57 m) := by
  have hh := h
  obtain ⟨⟨a1, a2⟩, a3, a4, a5, ⟨a6, a7⟩, ⟨a8, a9⟩, a10⟩ := h
  have hL3 := a4.2.2.1 M (Nat.le_refl M)
  unfold f_X6_readSteps_67 f_X6_readSteps_83 f_X11_decades_57
  rw [if_pos a2.2.2.1, a8, a9]
  cases hst : skN (rK (ra m)) M with
  | nil =>
    rw [show ([] : List Nat).length = 0 from rfl, if_pos (show nI 0 = (0 : Int32) by decide), if_pos (Or.inr rfl), if_pos (show nI 0 = (0 : Int32) by decide), if_pos (show nI 0 ≤ (0 : Int32) by decide)]
    exact Or.inl ⟨_, m, M, rfl, rfl, ⟨a1.2.2.2.2.1, a1.2.2.2.2.2, a2⟩, ⟨a4.congr (Nat.le_refl _) (fun i s h1 h2 _ => by rcases (show i = 1 ∨ i = 2 ∨ i = 3 ∨ i = 4 ∨ i = 5 ∨ i = 6 ∨ i = 7 by omega) with rfl | rfl | rfl | rfl | rfl | rfl | rfl <;> rfl) (fun _ _ _ => rfl), a5, gI_same _ _ _ _, a6, a7, hst⟩, KM.rf⟩
  | cons o l =>
    have hlen : (o :: l).length = l.length + 1 := rfl
    rw [hst] at hL3
    rw [hlen] at hL3 ⊢
    rw [if_neg (nI_nz (by omega) (by omega)), if_pos (Or.inl rfl), if_neg (nI_nz (by omega) (by omega)), if_neg (nI_nlz (by omega) (by omega))]
    have s0 : SY (gsub (gI w 20 0 0) e_shPR_shT_2) m B n T i := a1
    have n0 : NE (gsub (gI w 20 0 0) e_shPR_shT_2) m := a2
    rcases y_here s0 n0 (fun _ _ => False) with ⟨_, _, _, _, z⟩ | ⟨u', m', h1, h2, h3, h4⟩
    · exact z.elim
    · rw [h1, h2]
      exact Or.inr ⟨_, m', rfl, rfl, h3, h4.km⟩
theorem DE.tr {m m1 : GW} {o1 o2 : Option (Int32 × GW)} (hk : KM m m1) (h : DE m1 nk nc o1 o2) : DE m nk nc o1 o2 := by
  rcases h with ⟨w', m', M, h1, h2, h3, h4, h5⟩ | ⟨w', m', h1, h2, h3, h4⟩
  · exact Or.inl ⟨w', m', M, h1, h2, h3, h4, hk.tr h5⟩
  · exact Or.inr ⟨w', m', h1, h2, h3, hk.tr h4⟩
theorem d_steps : ∀ (d : Nat) (i a n1 n2 M : Nat) (w m : GW), DP w m B n T i M nc nk → T - i ≤ d → a ≤ i → d + 2 < n1 → d + 2 < n2 → DE m nk nc (f_X6_readSteps_14 n1 (nI a) w) (f_X11_decades_38 n2 (1 : Int32) m) := by
  intro d
  induction d with
  | zero =>
    intro i a n1 n2 M w m h hd
    have := h.1.1.2.1.2.2.2
    omega
  | succ d ih =>
    intro i a n1 n2 M w m h hd ha hn1 hn2
    have hT := h.1.1.2.1
    have hb := hT.1
    have hi := hT.2.2.2
    obtain ⟨n1, rfl⟩ := fu_pos (show 0 < n1 by omega)
    obtain ⟨n2, rfl⟩ := fu_pos (show 0 < n2 by omega)
    show DE m nk nc (b_X6_readSteps_14 _ (nI a) w) (b_X11_decades_38 _ (1 : Int32) m)
    unfold b_X6_readSteps_14 b_X11_decades_38 f_X6_readSteps_54
    rw [if_neg (nI_geL (by show a < 901; omega) (by omega)), show w.1 2 1 = tK B (tp B i) from h.1.1.2.2.1.2.1, nI_1, if_neg one_ne, show m.1 0 12 = mK B (tp B i) from h.1.1.2.2.2.1.1]
    by_cases q : tK B (tp B i) = 0
    · rw [if_pos q, if_pos (mK_0 B _ ▸ q)]
      exact d_last h
    · rw [if_neg q, if_neg (fun z => q (mK_0 B _ ▸ z))]
      have go : ∀ o1 : Option (Int32 × GW), DO m B n T i nc nk o1 (F_X11_decadeStep m) → DE m nk nc (o1.bind fun q6 => (if q6.1 = 0 then (some ((0 : Int32), q6.2)) else (f_X6_readSteps_14 n1 (nI (a + 1)) q6.2))) ((F_X11_decadeStep m).bind fun q6 => (f_X11_decades_38 n2 q6.1 q6.2)) := by
        intro o1 hd0
        rcases hd0 with ⟨w', m', M', j, h1, h2, h3, h4, h5⟩ | ⟨w', m', h1, h2, h3, h4⟩
        · rw [h1, h2, Option.bind_some, Option.bind_some, if_neg one_ne]
          exact DE.tr h5 (ih j (a + 1) n1 n2 M' w' m' h3 (by omega) (by omega) (by omega) (by omega))
        · rw [h1, h2, Option.bind_some, Option.bind_some, if_pos zer_eq]
          obtain ⟨n2, rfl⟩ := fu_pos (show 0 < n2 by omega)
          refine Or.inr ⟨w', m', rfl, ?_, h3, h4⟩
          obtain ⟨_, _, ⟨k, k1, k2, _, k4⟩, _⟩ := h3
          show b_X11_decades_38 _ (0 : Int32) m' = _
          unfold b_X11_decades_38 f_X11_decades_57
          rw [if_pos zer_eq, k4, if_neg (nI_nz (by omega) (by omega))]
      by_cases q2 : w.1 2 2 = (26 : Int32)
      · rw [if_pos q2]
        exact go _ (d_end h q2)
      · rw [if_neg q2]
        exact go _ (d_step h q2)
theorem m_102 : ∀ (j k n : Nat) (w : GW), k + j = 446 → j < n → ∃ w', f_X11_decades_102 n (nI k) w = f_X11_decades_131 w' ∧ w'.2 = w.2 ∧ (∀ i, i ≠ 1 → w'.1 i = w.1 i) ∧ (∀ q, k ≤ q → q < 446 → w'.1 1 q = w.1 1 (1816 + q)) ∧ (∀ q, q < k ∨ 446 ≤ q → w'.1 1 q = w.1 1 q) := by
  intro j
  induction j with
  | zero =>
    intro k n w hj hn
    obtain ⟨n, rfl⟩ := fu_pos hn
    refine ⟨w, ?_, rfl, fun _ _ => rfl, fun q h1 h2 => by omega, fun _ _ => rfl⟩
    show b_X11_decades_102 _ (nI k) w = _
    unfold b_X11_decades_102
    rw [if_pos (nI_leL (by show 446 ≤ k; omega) (by omega))]
  | succ j ih =>
    intro k n w hj hn
    obtain ⟨n, rfl⟩ := fu_pos (show 0 < n by omega)
    obtain ⟨w', g1, g2, g3, g4, g5⟩ := ih (k + 1) n (gI w 1 k (w.1 1 (1816 + k))) (by omega) (by omega)
    refine ⟨w', ?_, g2, fun i hi => (g3 i hi).trans (funext fun q => if_neg (fun z => hi z.1)), fun q h1 h2 => ?_, fun q h1 => ?_⟩
    · show b_X11_decades_102 _ (nI k) w = _
      unfold b_X11_decades_102
      rw [if_neg (nI_geL (by show k < 446; omega) (by omega)), nq_Ladd, if_pos (gin_nI (by show 1816 + k < 2356; omega) (by omega)), if_pos (gin_nI (by omega) (by omega)), nI_clamp (n := OfNat.ofNat 1816 + k) (by show 1816 + k < _; omega), nI_clamp (n := k) (by omega), nI_1]
      exact g1
    · by_cases e : q = k
      · subst e
        rw [g5 _ (by omega)]
        exact if_pos ⟨rfl, rfl⟩
      · rw [g4 q (by omega) h2]
        exact if_neg (fun z => by omega)
    · rw [g5 q (by omega)]
      exact if_neg (fun z => by omega)
end
section
variable {w x m : GW} {a a' : Nat → Int32} {nm : Nat → Int64} {nc nr nk nl : Nat}
theorem Bq.c7 (h : Bq w a nm nc nr nk nl) (hn : nc ≤ 7 ∧ nr ≤ 5 ∧ nk ≤ 6 ∧ nl ≤ 8) (ha : ∀ k, k < 86 → k ≠ 7 → a' k = a k) : Bq w a' nm nc nr nk nl := by
  refine ⟨⟨?_, ?_, ?_⟩, h.2.1, fun k hk => ?_, fun k hk => ⟨?_, ?_⟩, fun k hk => h.name hk, fun k hk => ⟨?_, ?_, ?_, ?_, ?_, ?_⟩, fun k hk => ⟨?_, ?_⟩⟩
  · rw [ha _ (by omega) (by omega)]; exact h.odds
  · rw [ha _ (by omega) (by omega)]; exact h.cash
  · rw [ha _ (by omega) (by omega)]; exact h.year
  · rw [ha _ (by omega) (by omega)]; exact h.still hk
  · rw [ha _ (by omega) (by omega)]; exact h.at hk
  · rw [ha _ (by omega) (by omega)]; exact h.pay hk
  · rw [ha _ (by omega) (by omega)]; exact h.seat hk
  · rw [ha _ (by omega) (by omega)]; exact h.served hk
  · rw [ha _ (by omega) (by omega)]; exact h.grey hk
  · rw [ha _ (by omega) (by omega)]; exact h.sham hk
  · rw [ha _ (by omega) (by omega)]; exact h.paid hk
  · rw [ha _ (by omega) (by omega)]; exact h.unpaid hk
  · rw [ha _ (by omega) (by omega)]; exact h.sum hk
  · rw [ha _ (by omega) (by omega)]; exact h.nerve hk
theorem Bi.c7 (h : Bi a nc nr nk nl) (ha : ∀ k, k < 86 → k ≠ 7 → a' k = a k) : Bi a' nc nr nk nl := by
  have hn := h.cnt
  have h2 : Bi (upd a' 7 (a 7)) nc nr nk nl := h.congr (fun k hk => by
    by_cases e : k = 7
    · rw [e, pk_us]
    · rw [pk_un e]; exact ha k hk e)
  have e : ∀ k, k ≠ 7 → a' k = upd a' 7 (a 7) k := fun k hk => (pk_un hk).symm
  refine ⟨⟨?_, ?_, ?_, ?_⟩, hn, ?_, ?_, fun k hk => ?_, fun k hk => ⟨?_, ?_⟩, fun k hk => ⟨?_, ?_, ?_⟩, fun j k hj hk e2 => ?_, fun k hk => ⟨?_, ?_⟩⟩
  · rw [e _ (by omega)]; exact h2.n0
  · rw [e _ (by omega)]; exact h2.n1
  · rw [e _ (by omega)]; exact h2.n2
  · rw [e _ (by omega)]; exact h2.n3
  · rw [e _ (by omega)]; exact h2.odds
  · rw [e _ (by omega)]; exact h2.cash
  · rw [e _ (by omega)]; exact h2.still hk
  · rw [e _ (by omega)]; exact h2.at hk
  · rw [e _ (by omega)]; exact h2.pay hk
  · rw [e _ (by omega)]; exact h2.seat hk
  · rw [e _ (by omega)]; exact h2.grey hk
  · rw [e _ (by omega)]; exact h2.sham hk
  · rw [e _ (by omega), e (27 + 7 * k) (by omega)] at e2; exact h2.apart hj hk e2
  · rw [e _ (by omega)]; exact h2.sum hk
  · rw [e _ (by omega)]; exact h2.nerve hk
theorem s_decades (h : RR x m) (v : Int32) : Sm (F_X10_decades v x) (F_X11_decades v m) := by
  have hF := FU_big
  obtain ⟨h1, h2, h3, h4, h5, h6⟩ := id h
  obtain ⟨⟨n0, t1, t2, t3, t4⟩, t5, t6⟩ := id h3
  obtain ⟨nc, nr, nk, nl, b1, b2, b3⟩ := id h4
  have hcn := b2.cnt
  unfold F_X10_decades F_X11_decades
  by_cases hv : v < 0
  · unfold F_X11_begins f_X10_decades_22
    rw [if_pos hv, if_pos hv, Option.bind_some, if_pos zer_eq]
    exact h.st 1 |> fun q => ⟨(-1 : Int32), _, _, rfl, rfl, q⟩
  obtain ⟨n, hn, rfl⟩ := nI_of hv
  by_cases hle : n0 < n
  · unfold F_X11_begins f_X10_decades_22
    rw [if_neg hv, if_neg hv, t2, t3, if_pos (nI_lt hle (by omega)), if_pos (nI_lt hle (by omega)), Option.bind_some, if_pos zer_eq]
    exact h.st 1 |> fun q => ⟨(-1 : Int32), _, _, rfl, rfl, q⟩
  by_cases h300 : 300 < n
  · unfold F_X11_begins f_X10_decades_22
    rw [if_neg hv, if_neg hv, t2, t3, if_neg (nI_nlt (by omega) (by omega)), if_neg (nI_nlt (by omega) (by omega)), if_neg (nI_nleR (by show 300 < n; omega) (by omega)), if_neg (nI_nleR (by show 300 < n; omega) (by omega)), Option.bind_some, if_pos zer_eq]
    exact h.st 1 |> fun q => ⟨(-1 : Int32), _, _, rfl, rfl, q⟩
  obtain ⟨u', m1, B, T, g1, g2, g3, g4, g5⟩ := y_begin (u := gsub x e_shX_shT_9) (m := m) (n := n) (n0 := n0) (hi := 300) (by omega) t1 (by omega) (by omega) t3 t4
  rw [if_neg hv, t2, if_neg (nI_nlt (by omega) (by omega)), if_pos (nI_leR (by show n ≤ 300; omega) (by omega)), g1, Option.bind_some, show F_X11_begins (nI n) (300 : Int32) m = _ from g2, Option.bind_some, if_neg one_ne]
  unfold F_X6_readSteps F_X5_clear
  rw [Option.bind_some]
  have k2 : KM m (gI (gI (gI m1 1 1823 (0 : Int32)) 0 22 (0 : Int32)) 0 23 (0 : Int32)) := g5.km.tr (KM.tr (KM.row (r := 1823) (by omega) _) ⟨fun k hk => by rw [gI_of _ _ (by omega), gI_of _ _ (by omega)], fun i h1 _ _ _ => by rw [gI_c0 _ h1, gI_c0 _ h1], fun _ _ => rfl, fun _ _ => rfl, fun _ _ => rfl⟩)
  have hdp : DP (gI (gput (gsub (gput x e_shX_shT_9 u') e_shX_shPR_57) e_shPR_shP_20 (gI (gI (gsub (gsub (gput x e_shX_shT_9 u') e_shX_shPR_57) e_shPR_shP_20) 0 0 (0 : Int32)) 0 1 (0 : Int32))) 0 4 (0 : Int32)) (gI (gI (gI m1 1 1823 (0 : Int32)) 0 22 (0 : Int32)) 0 23 (0 : Int32)) B n T 0 0 nc nk := by
    refine ⟨⟨?_, g4.1, g4.2.1, g4.2.2.1, g4.2.2.2⟩, ⟨⟨hcn.2.2.1, b1.n2, ?_⟩, ⟨hcn.1, b1.n0, ?_⟩, fun k hk => ?_⟩, ⟨?_, ?_, fun j hj => ?_, fun j hj => absurd hj (by omega), fun j hj => absurd hj (by omega), fun j hj => absurd hj (by omega)⟩, rfl, ⟨rfl, rfl⟩, ⟨rfl, rfl⟩, trivial⟩
    · have sm : SY u' (gI (gI (gI m1 1 1823 (0 : Int32)) 0 22 (0 : Int32)) 0 23 (0 : Int32)) B n T 0 := g3.mv (fun k hk => by rw [gI_of _ _ (by omega), gI_of _ _ (by omega)]; rfl) rfl
      exact sm
    · show m1.1 1 2 = _
      rw [g5.2.1 1 (by omega) (by omega)]; exact b2.n2
    · show m1.1 1 0 = _
      rw [g5.2.1 1 (by omega) (by omega)]; exact b2.n0
    · show nmR (x.2 18 k) (m1.2 2 k)
      rw [g5.1]
      exact b1.name hk
    · show 0 ≤ 30; omega
    · show 0 + 0 ≤ 0; omega
    · rw [show j = 0 by omega]; show 0 ≤ 3; omega
  have hT := hdp.1.1.2.1.1
  have hfb : ∀ r w', f_X6_readSteps_14 FU (0 : Int32) (gI (gput (gsub (gput x e_shX_shT_9 u') e_shX_shPR_57) e_shPR_shP_20 (gI (gI (gsub (gsub (gput x e_shX_shT_9 u') e_shX_shPR_57) e_shPR_shP_20) 0 0 (0 : Int32)) 0 1 (0 : Int32))) 0 4 (0 : Int32)) = some (r, w') → ∀ i, 7 ≤ i → i ≤ 19 → w'.1 i = (gsub x e_shX_shPR_57).1 i ∧ w'.2 i = (gsub x e_shX_shPR_57).2 i := by
    intro r w' e i h1 h2
    have h0 : FB (gsub (gput x e_shX_shT_9 u') e_shX_shPR_57) w' := kb_14 FU 0 _ ((FB.rf.pl _).put (by omega) _) (r, w') e
    rw [(h0 i h1 h2).1, (h0 i h1 h2).2]
    rcases (show i = 7 ∨ i = 8 ∨ i = 9 ∨ i = 10 ∨ i = 11 ∨ i = 12 ∨ i = 13 ∨ i = 14 ∨ i = 15 ∨ i = 16 ∨ i = 17 ∨ i = 18 ∨ i = 19 by omega) with rfl | rfl | rfl | rfl | rfl | rfl | rfl | rfl | rfl | rfl | rfl | rfl | rfl <;> exact ⟨rfl, rfl⟩
  rcases d_steps T 0 0 FU FU 0 _ _ hdp (by omega) (by omega) (by omega) (by omega) with ⟨w', m3, M, q1, q2, ⟨q3, q4, q5⟩, ⟨q6, q7, q8, q9, q10, q11⟩, q12⟩ | ⟨w', m3, q1, q2, q3, q4⟩
  · rw [show f_X6_readSteps_14 FU (0 : Int32) _ = _ from q1, show f_X11_decades_38 FU (1 : Int32) _ = _ from q2, Option.bind_some, if_neg one_ne]
    have kk := k2.tr q12
    have hM := q6.bound
    have hcp : F_X5_copyFrom (gsub (gput (gput x e_shX_shT_9 u') e_shX_shPR_57 w') e_shX_shPP_40_48) = some (cpP (gsub (gput (gput x e_shX_shT_9 u') e_shX_shPR_57 w') e_shX_shPP_40_48)) := if_pos (Or.inr q8)
    unfold f_X11_decades_77
    rw [hcp, Option.bind_some, if_pos q5.2.2.1]
    obtain ⟨m4, r1, r2, r3, r4, r5⟩ := m_102 360 86 FU (gI m3 1 7 (m3.1 1 1823)) (by omega) (by omega)
    rw [show f_X11_decades_102 FU (86 : Int32) (gI m3 1 7 (m3.1 1 1823)) = _ from r1]
    unfold f_X11_decades_131 F_X11_taken F_X11_gives F_X10_answer
    have m41 : ∀ i, i ≠ 1 → m4.1 i = m3.1 i := fun i hi => (r3 i hi).trans (funext fun q => if_neg (fun z => hi z.1))
    have m411 : ∀ k, 86 ≤ k → k < 446 → m4.1 1 k = ra m3 k := fun k hk hk2 => by rw [r4 k hk hk2, gI_ne _ _ _ _ (by omega)]; rfl
    have m417 : m4.1 1 7 = nI M := by rw [r5 7 (by omega), gI_same]; exact q7
    have m412 : ∀ k, k ≠ 7 → (k < 86 ∨ 446 ≤ k) → m4.1 1 k = m3.1 1 k := fun k h1 hk => by rw [r5 k hk, gI_ne _ _ _ _ (by omega)]
    have m42 : m4.2 = m3.2 := r2
    have e18 : m4.1 0 18 = 0 := by rw [m41 0 (by omega)]; exact q5.2.2.1
    have e23 : m4.1 0 23 = nI (rkN (rK (ra m3)) M) := by rw [m41 0 (by omega)]; exact q10
    rw [e18, e23, if_pos (by decide), Option.bind_some, Option.bind_some]
    refine ⟨nI (rkN (rK (ra m3)) M), _, gI (gI m4 0 16 0) 0 2 0, ?_, rfl, rr_text h (X := gI (gput (gput (gput x e_shX_shT_9 u') e_shX_shPR_57 w') e_shX_shPP_40_48 (cpP (gsub (gput (gput x e_shX_shT_9 u') e_shX_shPR_57 w') e_shX_shPP_40_48))) 0 15 0) (M := gI (gI m4 0 16 0) 0 2 0) rfl ⟨rfl, rfl⟩ ?_ ⟨rfl, rfl, rfl, rfl, rfl, rfl⟩ ⟨?_, ?_, ?_⟩ ⟨?_, ?_, ?_, ?_⟩ ?_ h5 ⟨?_, fun k z1 z2 => ?_, fun k z1 z2 => ?_⟩ h6 ⟨?_, ?_⟩⟩
    · rw [show (cpP (gsub (gput (gput x e_shX_shT_9 u') e_shX_shPR_57 w') e_shX_shPP_40_48)).1 0 1 = nI (rkN (rK (ra m3)) M) from q9]
    · show m4.2 0 = m.2 0
      rw [m42]; exact kk.2.2.2.1 0 (by omega)
    · rw [gI_c0 _ (by omega), gI_c0 _ (by omega), m41 3 (by omega)]; exact kk.2.1 3 (by omega) (by omega) (by omega) (by omega)
    · rw [gI_c0 _ (by omega), gI_c0 _ (by omega), m41 4 (by omega)]; exact kk.2.1 4 (by omega) (by omega) (by omega) (by omega)
    · show m4.2 5 = m.2 5
      rw [m42]; exact kk.2.2.2.1 5 (by omega)
    · exact q3
    · show m4.1 0 10 = 0
      rw [m41 0 (by omega)]; exact q4
    · exact q5.1
    · show w'.1 2 5 = m4.1 0 17
      rw [m41 0 (by omega), q5.2.2.2]; exact q5.2.1
    · have hrow : ∀ k, k < 86 → k ≠ 7 → m4.1 1 k = m.1 1 k := fun k z1 z2 => by rw [m412 k z2 (by omega)]; exact kk.2.2.1 k (by omega)
      have bq1 : Bq (gsub (gI (gput (gput (gput x e_shX_shT_9 u') e_shX_shPR_57 w') e_shX_shPP_40_48 (cpP (gsub (gput (gput x e_shX_shT_9 u') e_shX_shPR_57 w') e_shX_shPP_40_48))) 0 15 0) e_shX_shB_14) (m.1 1) (m.2 2) nc nr nk nl := by
        have hb := hfb _ _ q1
        refine b1.congr hcn (fun i k hi => ?_) (fun k => ?_) (fun _ _ => rfl)
        · have e1 := fun j h1 h2 => congrFun (hb j h1 h2).1 k
          rcases (show i = 0 ∨ i = 1 ∨ i = 2 ∨ i = 3 ∨ i = 4 ∨ i = 5 ∨ i = 6 ∨ i = 7 ∨ i = 8 ∨ i = 9 ∨ i = 10 ∨ i = 11 ∨ i = 12 by omega) with rfl | rfl | rfl | rfl | rfl | rfl | rfl | rfl | rfl | rfl | rfl | rfl | rfl
          · exact e1 7 (by omega) (by omega)
          · exact e1 8 (by omega) (by omega)
          · exact e1 9 (by omega) (by omega)
          · exact e1 10 (by omega) (by omega)
          · exact e1 11 (by omega) (by omega)
          · exact e1 12 (by omega) (by omega)
          · exact e1 13 (by omega) (by omega)
          · exact e1 14 (by omega) (by omega)
          · exact e1 15 (by omega) (by omega)
          · exact e1 16 (by omega) (by omega)
          · exact e1 17 (by omega) (by omega)
          · exact e1 18 (by omega) (by omega)
          · exact e1 19 (by omega) (by omega)
        · exact congrFun (hb 11 (by omega) (by omega)).2 k
      have bq2 := bq1.c7 hcn hrow
      have bq3 : Bq (gsub (gI (gput (gput (gput x e_shX_shT_9 u') e_shX_shPR_57 w') e_shX_shPP_40_48 (cpP (gsub (gput (gput x e_shX_shT_9 u') e_shX_shPR_57 w') e_shX_shPP_40_48))) 0 15 0) e_shX_shB_14) (m4.1 1) (m4.2 2) nc nr nk nl := ⟨bq2.1, bq2.2.1, bq2.2.2.1, bq2.2.2.2.1, fun k hk => by rw [m42, kk.2.2.2.2 k (by omega)]; exact bq2.name hk, bq2.2.2.2.2.2⟩
      have hr : ∀ j, j < M → rK (m4.1 1) j = rK (ra m3) j := fun j hj => m411 _ (by omega) (by omega)
      have pr1 : Pr (gsub (gI (gput (gput (gput x e_shX_shT_9 u') e_shX_shPR_57 w') e_shX_shPP_40_48 (cpP (gsub (gput (gput x e_shX_shT_9 u') e_shX_shPR_57 w') e_shX_shPP_40_48))) 0 15 0) e_shX_shP_40) (m4.1 1) nk nc M := by
        refine q6.congr (Nat.le_refl _) (fun i s z1 z2 z3 => ?_) (fun k z1 z2 => m411 k z1 z2)
        rcases (show i = 1 ∨ i = 2 ∨ i = 3 ∨ i = 4 ∨ i = 5 ∨ i = 6 ∨ i = 7 by omega) with rfl | rfl | rfl | rfl | rfl | rfl | rfl
        · show va_cpy (w'.1 21) (x.1 41) 0 0 30 s = w'.1 21 s
          exact cpy0 z3
        · show va_cpy (w'.1 22) (x.1 42) 0 0 30 s = w'.1 22 s
          exact cpy0 z3
        · show va_cpy (w'.1 23) (x.1 43) 0 0 30 s = w'.1 23 s
          exact cpy0 z3
        · show va_cpy (w'.1 24) (x.1 44) 0 0 30 s = w'.1 24 s
          exact cpy0 z3
        · show va_cpy (w'.1 25) (x.1 45) 0 0 30 s = w'.1 25 s
          exact cpy0 z3
        · show va_cpy (w'.1 26) (x.1 46) 0 0 30 s = w'.1 26 s
          exact cpy0 z3
        · show va_cpy (w'.1 27) (x.1 47) 0 0 30 s = w'.1 27 s
          exact cpy0 z3
      have e9 : w'.1 20 1 = nI (rkN (rK (m4.1 1)) M) := by rw [rkN_congr M hr]; exact q9
      have e11 : skN (rK (m4.1 1)) M = [] := by rw [skN_congr M hr]; exact q11
      exact ⟨nc, nr, nk, nl, bq3, b2.c7 hrow, Or.inr ⟨q8, M, m417, pr1, e9, e11⟩⟩
    · show m4.1 0 39 = _
      rw [m41 0 (by omega)]; exact kk.1 39 (by omega)
    · show m4.1 1 k = _
      rw [m412 k (by omega) (by omega)]; exact kk.2.2.1 k (by omega)
    · show m4.2 2 k = _
      rw [m42]; exact kk.2.2.2.2 k (by omega)
    · show m4.1 0 38 = _
      rw [m41 0 (by omega)]; exact kk.1 38 (by omega)
    · rw [gI_c0 _ (by omega), gI_c0 _ (by omega), m41 18 (by omega)]; exact kk.2.1 18 (by omega) (by omega) (by omega) (by omega)
  · rw [show f_X6_readSteps_14 FU (0 : Int32) _ = _ from q1, show f_X11_decades_38 FU (1 : Int32) _ = _ from q2, Option.bind_some, if_pos zer_eq]
    have kk := k2.tr q4
    obtain ⟨a1, a2, ⟨k, a3, a4, a5, a6⟩, a7⟩ := q3
    unfold f_X11_decades_77 f_X11_decades_131 F_X11_taken F_X11_refuse F_X10_refuse
    rw [a6, if_neg (nI_nz (by omega) (by omega)), if_neg (nI_nlz (by omega) (by omega)), Option.bind_some, Option.bind_some]
    refine ⟨(-1 : Int32), _, _, rfl, rfl, rr_text h (X := gI (gput (gput x e_shX_shT_9 u') e_shX_shPR_57 w') 0 15 9) (M := gI (gI m3 0 16 (nI k)) 0 2 9) rfl ⟨rfl, rfl⟩ (kk.2.2.2.1 0 (by omega)) ⟨rfl, rfl, rfl, rfl, rfl, rfl⟩ ⟨?_, ?_, kk.2.2.2.1 5 (by omega)⟩ ⟨a1, a2, a5, a7⟩ ?_ h5 ⟨kk.1 39 (by omega), fun k z1 z2 => kk.2.2.1 k (by omega), fun k z1 z2 => kk.2.2.2.2 k (by omega)⟩ h6 ⟨kk.1 38 (by omega), ?_⟩⟩
    · rw [gI_c0 _ (by omega), gI_c0 _ (by omega)]; exact kk.2.1 3 (by omega) (by omega) (by omega) (by omega)
    · rw [gI_c0 _ (by omega), gI_c0 _ (by omega)]; exact kk.2.1 4 (by omega) (by omega) (by omega) (by omega)
    · have h4' : SQ (gsub (gI (gput (gput x e_shX_shT_9 u') e_shX_shPR_57 w') 0 15 9) e_shX_shB_14) (gsub (gI (gput (gput x e_shX_shT_9 u') e_shX_shPR_57 w') 0 15 9) e_shX_shP_40) (m.1 1) (m.2 2) := by
        have hb := hfb _ _ q1
        refine h4.congr (fun i k hi => ?_) (fun k => ?_) (fun i k hi => ?_) (fun _ _ => rfl) (fun _ _ => rfl)
        · have e1 := fun j h1 h2 => congrFun (hb j h1 h2).1 k
          rcases (show i = 0 ∨ i = 1 ∨ i = 2 ∨ i = 3 ∨ i = 4 ∨ i = 5 ∨ i = 6 ∨ i = 7 ∨ i = 8 ∨ i = 9 ∨ i = 10 ∨ i = 11 ∨ i = 12 by omega) with rfl | rfl | rfl | rfl | rfl | rfl | rfl | rfl | rfl | rfl | rfl | rfl | rfl
          · exact e1 7 (by omega) (by omega)
          · exact e1 8 (by omega) (by omega)
          · exact e1 9 (by omega) (by omega)
          · exact e1 10 (by omega) (by omega)
          · exact e1 11 (by omega) (by omega)
          · exact e1 12 (by omega) (by omega)
          · exact e1 13 (by omega) (by omega)
          · exact e1 14 (by omega) (by omega)
          · exact e1 15 (by omega) (by omega)
          · exact e1 16 (by omega) (by omega)
          · exact e1 17 (by omega) (by omega)
          · exact e1 18 (by omega) (by omega)
          · exact e1 19 (by omega) (by omega)
        · exact congrFun (hb 11 (by omega) (by omega)).2 k
        · rcases (show i = 0 ∨ i = 1 ∨ i = 2 ∨ i = 3 ∨ i = 4 ∨ i = 5 ∨ i = 6 ∨ i = 7 by omega) with rfl | rfl | rfl | rfl | rfl | rfl | rfl | rfl <;> rfl
      exact h4'.row (fun k hk => kk.2.2.1 k (by omega)) (fun k hk => kk.2.2.2.2 k (by omega))
    · rw [gI_c0 _ (by omega), gI_c0 _ (by omega)]; exact kk.2.1 18 (by omega) (by omega) (by omega) (by omega)
end
