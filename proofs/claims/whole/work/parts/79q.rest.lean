/-! The rest of a step, after its word. -/
section
variable {w m : GW} {B : Nat → Nat} {n T i s M nk nc : Nat}
def BK (w m : GW) (nc nk : Nat) : Prop := (nk ≤ 6 ∧ w.1 7 5 = nI nk ∧ m.1 1 2 = nI nk) ∧ (nc ≤ 7 ∧ w.1 7 3 = nI nc ∧ m.1 1 0 = nI nc) ∧ ∀ k, k < nk → nmR (w.2 11 k) (m.2 2 k)
theorem BK.mv {w' m' : GW} (h : BK w m nc nk) (hw : FW w w' s) (hm : KM m m') : BK w' m' nc nk := by
  obtain ⟨⟨a1, a2, a3⟩, ⟨b1, b2, b3⟩, c⟩ := h
  refine ⟨⟨a1, ?_, ?_⟩, ⟨b1, ?_, ?_⟩, fun k hk => ?_⟩
  · rw [hw.1 7 5 (by omega) (by omega) (by omega)]; exact a2
  · rw [hm.2.2.1 2 (by omega)]; exact a3
  · rw [hw.1 7 3 (by omega) (by omega) (by omega)]; exact b2
  · rw [hm.2.2.1 0 (by omega)]; exact b3
  · rw [hw.2 11 (by omega) (by omega), hm.2.2.2.2 k (by omega)]; exact c k hk
theorem ra_new {m' : GW} {j : Nat} {v : Int32} (h : Fr (gI m 1 (1902 + 6 * M + j) v) m') : ra m' = upd (ra m) (86 + 6 * M + j) v := by
  rw [ra_fr h, ra_at (k := 86 + 6 * M + j) (by omega)]
def RO (w m : GW) (B : Nat → Nat) (n T i s M nc nk : Nat) (o1 o2 : Option (Int32 × GW)) : Prop :=
  (∃ w' m' j, o1 = some (1, w') ∧ o2 = some (1, m') ∧ (SY (gsub w' e_shPR_shT_2) m' B n T j ∧ NE (gsub w' e_shPR_shT_2) m') ∧ i ≤ j ∧ FW w w' s ∧ FM m m' M ∧ Prow (gsub w' e_shPR_shP_20) (ra m') nk nc M s) ∨
  (∃ w' m', o1 = some (0, w') ∧ o2 = some (0, m') ∧ FE (gsub w' e_shPR_shT_2) m' ∧ KM m m')
theorem RO.bb {o1 o2 : Option (Int32 × GW)} (h : RO w m B n T i s M nc nk o1 o2) : RO w m B n T i s M nc nk (o1.bind fun q => (if q.1 = 0 ∨ q.1 = 1 then some (q.1, q.2) else none)) (o2.bind fun q => (if q.1 = 0 ∨ q.1 = 1 then some (q.1, q.2) else none)) := by
  rcases h with ⟨w', m', j, h1, h2, h3⟩ | ⟨w', m', h1, h2, h3⟩
  · exact Or.inl ⟨w', m', j, by rw [h1]; rfl, by rw [h2]; rfl, h3⟩
  · exact Or.inr ⟨w', m', by rw [h1]; rfl, by rw [h2]; rfl, h3⟩
theorem RO.b2 {o1 o2 : Option (Int32 × GW)} (h : RO w m B n T i s M nc nk o1 o2) : RO w m B n T i s M nc nk (o1.bind fun q => (if q.1 = 0 then (some ((0 : Int32), q.2)) else (some ((1 : Int32), q.2)))) (o2.bind fun q => (if q.1 = 0 then (some ((0 : Int32), q.2)) else (some ((1 : Int32), q.2)))) := by
  rcases h with ⟨w', m', j, h1, h2, h3⟩ | ⟨w', m', h1, h2, h3⟩
  · exact Or.inl ⟨w', m', j, by rw [h1]; rfl, by rw [h2]; rfl, h3⟩
  · exact Or.inr ⟨w', m', by rw [h1]; rfl, by rw [h2]; rfl, h3⟩
theorem RO.one {o1 : Option (Int32 × GW)} {o2 : Option (Int32 × GW)} (h : RO w m B n T i s M nc nk o1 o2) {w0 m0 : GW} {i0 : Nat} (hi : i0 ≤ i) (hw : FW w0 w s) (hm : FM m0 m M) : RO w0 m0 B n T i0 s M nc nk o1 o2 := by
  rcases h with ⟨w', m', j, h1, h2, h3, h4, h5, h6, h7⟩ | ⟨w', m', h1, h2, h3, h4⟩
  · exact Or.inl ⟨w', m', j, h1, h2, h3, by omega, hw.tr h5, hm.tr h6, h7⟩
  · exact Or.inr ⟨w', m', h1, h2, h3, hm.1.tr h4⟩
theorem fkKM {v : Int32} {r : Nat} (hr : 1816 ≤ r ∧ r < 2270) {m' : GW} (h : Fk m m' ∨ Fk (gI m 1 r v) m') : KM m m' := by
  rcases h with h | h
  · exact h.km
  · exact (KM.row hr v).tr h.km
theorem ro_yr (h : SY (gsub w e_shPR_shT_2) m B n T i) (hn : NE (gsub w e_shPR_shT_2) m) (hs : s < 30) (hM : M < 60) (h1 : w.1 21 s = (15 : Int32)) (h2 : ra m (86 + 6 * M) = (15 : Int32)) : RO w m B n T i s M nc nk (F_X6_readMuch (nI s) (1 : Int32) (20 : Int32) w) (F_X11_number (nI (1902 + 6 * M + 1)) (1 : Int32) (20 : Int32) m) := by
  rcases r_much h hn hs (1 : Int32) (20 : Int32) (r := 1902 + 6 * M + 1) (by omega) with ⟨w', m', u', v, j1, j2, j3, j4, j5, j6, j7, j8⟩ | ⟨w', m', j1, j2, j3, j4⟩
  · subst j4
    have er := ra_new j5
    refine Or.inl ⟨_, m', i + 1, j1, j2, j3, by omega, (FW.txt u').tr (FW.put (by omega) _), (FM.row (j := 1) (by omega) (by omega) rfl _).tr (FM.fr j5), Or.inl ⟨h1, ?_, v, ?_, ?_, gI_same _ _ _ _, ?_⟩⟩
    · rw [er, pk_un (by omega)]; exact h2
    · exact (nI_leI (a := 1) (by omega) (by omega)).mp j6
    · exact (nI_leI (b := 20) (by omega) (by omega)).mp j7
    · rw [er, pk_us]
  · exact Or.inr ⟨w', m', j1, j2, j3, j4.km⟩
theorem ro_loop (h : SY (gsub w e_shPR_shT_2) m B n T i) (hn : NE (gsub w e_shPR_shT_2) m) (hs : s < 30) (hM : M < 60) (h1 : w.1 21 s = (25 : Int32)) (h2 : ra m (86 + 6 * M) = (24 : Int32)) : RO w m B n T i s M nc nk (F_X6_readMuch (nI s) (1 : Int32) (99 : Int32) w) (F_X11_number (nI (1902 + 6 * M + 1)) (1 : Int32) (99 : Int32) m) := by
  rcases r_much h hn hs (1 : Int32) (99 : Int32) (r := 1902 + 6 * M + 1) (by omega) with ⟨w', m', u', v, j1, j2, j3, j4, j5, j6, j7, j8⟩ | ⟨w', m', j1, j2, j3, j4⟩
  · subst j4
    have er := ra_new j5
    refine Or.inl ⟨_, m', i + 1, j1, j2, j3, by omega, (FW.txt u').tr (FW.put (by omega) _), (FM.row (j := 1) (by omega) (by omega) rfl _).tr (FM.fr j5), Or.inr (Or.inr (Or.inr (Or.inr (Or.inr (Or.inr (Or.inr (Or.inr (Or.inr (Or.inl ⟨h1, ?_, v, ?_, ?_, gI_same _ _ _ _, ?_⟩)))))))))⟩
    · rw [er, pk_un (by omega)]; exact h2
    · exact (nI_leI (a := 1) (by omega) (by omega)).mp j6
    · exact (nI_leI (b := 99) (by omega) (by omega)).mp j7
    · rw [er, pk_us]
  · exact Or.inr ⟨w', m', j1, j2, j3, j4.km⟩
theorem r_name1 {a1 j : Nat} (ha : a1 = 22 ∨ a1 = 23) (hj : j < 6) (h : SY (gsub w e_shPR_shT_2) m B n T i) (hn : NE (gsub w e_shPR_shT_2) m) (hs : s < 30) (hM : M < 60) (hb : BK w m nc nk) :
    (∃ w' m' u' c, F_X6_readName a1 (nI s) w = some (1, w') ∧ F_X11_clerkTo (nI (1902 + 6 * M + j)) m = some (1, m') ∧ (SY (gsub w' e_shPR_shT_2) m' B n T (i + 1) ∧ NE (gsub w' e_shPR_shT_2) m') ∧ w' = gI (gput w e_shPR_shT_2 u') a1 s (nI c) ∧ ra m' = upd (ra m) (86 + 6 * M + j) (nI c) ∧ c < nk ∧ FW w w' s ∧ FM m m' M ∧ BK w' m' nc nk) ∨
    (∃ w' m', F_X6_readName a1 (nI s) w = some (0, w') ∧ F_X11_clerkTo (nI (1902 + 6 * M + j)) m = some (0, m') ∧ FE (gsub w' e_shPR_shT_2) m' ∧ KM m m') := by
  rcases r_name ha h hn hs (r := 1902 + 6 * M + j) (by omega) hb.1.1 hb.1.2 hb.2.2 with ⟨w', m', u', c, j1, j2, j3, j4, j5, j6⟩ | ⟨w', m', v, j1, j2, j3, j4⟩
  · have f1 : FW w w' s := by
      rw [j4]
      exact (FW.txt u').tr (FW.put (by omega) _)
    have f2 : FM m m' M := (FM.row hj (by omega) rfl _).tr (FM.fr j5)
    exact Or.inl ⟨w', m', u', c, j1, j2, j3, j4, ra_new j5, j6, f1, f2, hb.mv f1 f2.1⟩
  · exact Or.inr ⟨w', m', j1, j2, j3, fkKM (by omega) j4⟩
theorem ro_move (h : SY (gsub w e_shPR_shT_2) m B n T i) (hn : NE (gsub w e_shPR_shT_2) m) (hs : s < 30) (hM : M < 60) (hb : BK w m nc nk) (h1 : w.1 21 s = (16 : Int32)) (h2 : ra m (86 + 6 * M) = (16 : Int32)) : RO w m B n T i s M nc nk ((F_X6_readName 22 (nI s) w).bind fun q5 => (if q5.1 = 0 then (some ((0 : Int32), q5.2)) else ((F_X6_readMuch (nI s) (0 : Int32) ((q5.2.1 7 3) - (1 : Int32)) q5.2).bind fun q7 => (if q7.1 = 0 then (some ((0 : Int32), q7.2)) else (some ((1 : Int32), q7.2)))))) ((F_X11_clerkTo (nI (1902 + 6 * M + 1)) m).bind fun q5 => (if q5.1 = 0 then (some ((0 : Int32), q5.2)) else ((F_X11_number (nI (1902 + 6 * M + 2)) (0 : Int32) ((q5.2.1 1 0) - (1 : Int32)) q5.2).bind fun q7 => (if q7.1 = 0 then (some ((0 : Int32), q7.2)) else (some ((1 : Int32), q7.2)))))) := by
  rcases r_name1 (a1 := 22) (j := 1) (Or.inl rfl) (by omega) h hn hs hM hb with ⟨w1, m1, u1, c, j1, j2, j3, j4, j5, j6, j7, j8, j9⟩ | ⟨w1, m1, j1, j2, j3, j4⟩
  · rw [j1, j2, Option.bind_some, Option.bind_some, if_neg one_ne, if_neg one_ne]
    rw [show (1, w1).2.1 7 3 = nI nc from j9.2.1.2.1, show (1, m1).2.1 1 0 = nI nc from j9.2.1.2.2]
    rcases r_much j3.1 j3.2 hs (0 : Int32) (nI nc - 1) (r := 1902 + 6 * M + 2) (by omega) with ⟨w2, m2, u2, v, k1, k2, k3, k4, k5, k6, k7, k8⟩ | ⟨w2, m2, k1, k2, k3, k4⟩
    · rw [k1, k2, Option.bind_some, Option.bind_some, if_neg one_ne, if_neg one_ne]
      have hv : v < nc := by
        by_cases z : nc = 0
        · exfalso
          rw [z, show nI 0 - 1 = (-1 : Int32) by decide] at k7
          have h9 : (0 : Int32) ≤ nI v := k6
          exact absurd (Int32.le_trans h9 k7) (by decide)
        · have hc := hb.2.1.1
          rw [show nI nc - 1 = nI (nc - 1) from nI_sub (b := 1) (by omega)] at k7
          have := (nI_leI (by omega) (by omega)).mp k7
          omega
      have er := ra_new k5
      subst k4 j4
      refine Or.inl ⟨_, m2, i + 1 + 1, rfl, rfl, k3, by omega, j7.tr ((FW.txt u2).tr (FW.put (by omega) _)), j8.tr ((FM.row (j := 2) (by omega) (by omega) rfl _).tr (FM.fr k5)), Or.inr (Or.inl ⟨h1, ?_, c, v, j6, hv, gI_same _ _ _ _, ?_, gI_same _ _ _ _, ?_⟩)⟩
      · rw [er, pk_un (by omega), j5, pk_un (by omega)]; exact h2
      · rw [er, pk_un (by omega), j5, pk_us]
      · rw [er, pk_us]
    · rw [k1, k2]
      exact Or.inr ⟨w2, m2, rfl, rfl, k3, j8.1.tr k4.km⟩
  · rw [j1, j2]
    exact Or.inr ⟨w1, m1, rfl, rfl, j3, j4⟩
theorem ro_fan (h : SY (gsub w e_shPR_shT_2) m B n T i) (hn : NE (gsub w e_shPR_shT_2) m) (hs : s < 30) (hM : M < 60) (hb : BK w m nc nk) (h1 : w.1 21 s = (18 : Int32)) (h2 : ra m (86 + 6 * M) = (18 : Int32)) : RO w m B n T i s M nc nk ((F_X6_readName 22 (nI s) w).bind fun q5 => (if q5.1 = 0 then (some ((0 : Int32), q5.2)) else ((F_X6_readMuch (nI s) (1 : Int32) (50 : Int32) q5.2).bind fun q7 => (if q7.1 = 0 then (some ((0 : Int32), q7.2)) else (some ((1 : Int32), q7.2)))))) ((F_X11_clerkTo (nI (1902 + 6 * M + 1)) m).bind fun q5 => (if q5.1 = 0 then (some ((0 : Int32), q5.2)) else ((F_X11_number (nI (1902 + 6 * M + 2)) (1 : Int32) (50 : Int32) q5.2).bind fun q7 => (if q7.1 = 0 then (some ((0 : Int32), q7.2)) else (some ((1 : Int32), q7.2)))))) := by
  rcases r_name1 (a1 := 22) (j := 1) (Or.inl rfl) (by omega) h hn hs hM hb with ⟨w1, m1, u1, c, j1, j2, j3, j4, j5, j6, j7, j8, j9⟩ | ⟨w1, m1, j1, j2, j3, j4⟩
  · rw [j1, j2, Option.bind_some, Option.bind_some, if_neg one_ne, if_neg one_ne]
    rcases r_much j3.1 j3.2 hs (1 : Int32) (50 : Int32) (r := 1902 + 6 * M + 2) (by omega) with ⟨w2, m2, u2, v, k1, k2, k3, k4, k5, k6, k7, k8⟩ | ⟨w2, m2, k1, k2, k3, k4⟩
    · rw [k1, k2, Option.bind_some, Option.bind_some, if_neg one_ne, if_neg one_ne]
      have hv : v ≤ 50 := (nI_leI (b := 50) (by omega) (by omega)).mp k7
      have er := ra_new k5
      subst k4 j4
      refine Or.inl ⟨_, m2, i + 1 + 1, rfl, rfl, k3, by omega, j7.tr ((FW.txt u2).tr (FW.put (by omega) _)), j8.tr ((FM.row (j := 2) (by omega) (by omega) rfl _).tr (FM.fr k5)), Or.inr (Or.inr (Or.inr (Or.inl ⟨h1, ?_, c, v, j6, hv, gI_same _ _ _ _, ?_, gI_same _ _ _ _, ?_⟩)))⟩
      · rw [er, pk_un (by omega), j5, pk_un (by omega)]; exact h2
      · rw [er, pk_un (by omega), j5, pk_us]
      · rw [er, pk_us]
    · rw [k1, k2]
      exact Or.inr ⟨w2, m2, rfl, rfl, k3, j8.1.tr k4.km⟩
  · rw [j1, j2]
    exact Or.inr ⟨w1, m1, rfl, rfl, j3, j4⟩
theorem ro_swap (h : SY (gsub w e_shPR_shT_2) m B n T i) (hn : NE (gsub w e_shPR_shT_2) m) (hs : s < 30) (hM : M < 60) (hb : BK w m nc nk) (h1 : w.1 21 s = (17 : Int32)) (h2 : ra m (86 + 6 * M) = (17 : Int32)) : RO w m B n T i s M nc nk ((F_X6_readName 22 (nI s) w).bind fun q5 => (if q5.1 = 0 then (some ((0 : Int32), q5.2)) else ((F_X6_readName 23 (nI s) q5.2).bind fun q7 => (if q7.1 = 0 then (some ((0 : Int32), q7.2)) else (some ((1 : Int32), q7.2)))))) ((F_X11_clerkTo (nI (1902 + 6 * M + 1)) m).bind fun q5 => (if q5.1 = 0 then (some ((0 : Int32), q5.2)) else ((F_X11_clerkTo (nI (1902 + 6 * M + 2)) q5.2).bind fun q7 => (if q7.1 = 0 then (some ((0 : Int32), q7.2)) else (some ((1 : Int32), q7.2)))))) := by
  rcases r_name1 (a1 := 22) (j := 1) (Or.inl rfl) (by omega) h hn hs hM hb with ⟨w1, m1, u1, c, j1, j2, j3, j4, j5, j6, j7, j8, j9⟩ | ⟨w1, m1, j1, j2, j3, j4⟩
  · rw [j1, j2, Option.bind_some, Option.bind_some, if_neg one_ne, if_neg one_ne]
    rcases r_name1 (a1 := 23) (j := 2) (Or.inr rfl) (by omega) j3.1 j3.2 hs hM j9 with ⟨w2, m2, u2, d, k1, k2, k3, k4, k5, k6, k7, k8, k9⟩ | ⟨w2, m2, k1, k2, k3, k4⟩
    · rw [k1, k2, Option.bind_some, Option.bind_some, if_neg one_ne, if_neg one_ne]
      subst k4 j4
      refine Or.inl ⟨_, m2, i + 1 + 1, rfl, rfl, k3, by omega, j7.tr k7, j8.tr k8, Or.inr (Or.inr (Or.inl ⟨h1, ?_, c, d, j6, k6, gI_same _ _ _ _, ?_, gI_same _ _ _ _, ?_⟩))⟩
      · rw [k5, pk_un (by omega), j5, pk_un (by omega)]; exact h2
      · rw [k5, pk_un (by omega), j5, pk_us]
      · rw [k5, pk_us]
    · rw [k1, k2]
      exact Or.inr ⟨w2, m2, rfl, rfl, k3, j8.1.tr k4⟩
  · rw [j1, j2]
    exact Or.inr ⟨w1, m1, rfl, rfl, j3, j4⟩
theorem ro_dust {k : Int32} (hk : k = 19 ∨ k = 20) (h : SY (gsub w e_shPR_shT_2) m B n T i) (hn : NE (gsub w e_shPR_shT_2) m) (hs : s < 30) (hM : M < 60) (hb : BK w m nc nk) (h1 : w.1 21 s = k) (h2 : ra m (86 + 6 * M) = k) : RO w m B n T i s M nc nk (F_X6_readName 22 (nI s) w) (F_X11_clerkTo (nI (1902 + 6 * M + 1)) m) := by
  rcases r_name1 (a1 := 22) (j := 1) (Or.inl rfl) (by omega) h hn hs hM hb with ⟨w1, m1, u1, c, j1, j2, j3, j4, j5, j6, j7, j8, j9⟩ | ⟨w1, m1, j1, j2, j3, j4⟩
  · have hr1 : ra m1 (86 + 6 * M) = k := by rw [j5, pk_un (by omega)]; exact h2
    have hr2 : ra m1 (86 + 6 * M + 1) = nI c := by rw [j5, pk_us]
    subst j4
    refine Or.inl ⟨_, m1, i + 1, j1, j2, j3, by omega, j7, j8, ?_⟩
    rcases hk with rfl | rfl
    · exact Or.inr (Or.inr (Or.inr (Or.inr (Or.inl ⟨h1, hr1, c, j6, gI_same _ _ _ _, hr2⟩))))
    · exact Or.inr (Or.inr (Or.inr (Or.inr (Or.inr (Or.inl ⟨h1, hr1, c, j6, gI_same _ _ _ _, hr2⟩)))))
  · exact Or.inr ⟨w1, m1, j1, j2, j3, j4⟩
end
section
variable {w m : GW} {B : Nat → Nat} {n T i s M nk nc : Nat}
theorem tsO (k : Nat) (hk : k = 1 ∨ k = 2 ∨ k = 3) : (2300 : Int32) + tsM k = (if k = 1 then 2301 else if k = 2 then 2303 else 2327) := by
  rcases hk with rfl | rfl | rfl <;> decide
/-- the last of a test -/
theorem ro_74 {k : Nat} (hk : k = 1 ∨ k = 2 ∨ k = 3) (h : SY (gsub w e_shPR_shT_2) m B n T i) (hn : NE (gsub w e_shPR_shT_2) m) (hs : s < 30) (hM : M < 60) (h1 : w.1 21 s = (23 : Int32)) (h5 : w.1 25 s = tsK k) (h2 : ra m (86 + 6 * M) = (2300 : Int32) + tsM k) (hc : k = 1 ∨ ∃ c, c < nk ∧ w.1 22 s = nI c ∧ ra m (86 + 6 * M + 1) = nI c) : RO w m B n T i s M nc nk (f_X6_readTest_74 (nI s) (tsK k) w) (f_X11_test_61 (nI (1902 + 6 * M)) (tsM k) m) := by
  rcases r_cmp hk h hn hs hM with ⟨w', m', u1, u2, g, v, m1, j1, j2, j3, j4, j5, j6⟩ | ⟨w', m', j1, j2, j3, j4⟩
  · have e1 := ra_new j5
    have e2 := ra_new j6
    have hr : ra m' (86 + 6 * M) = (2300 : Int32) + tsM k := by rw [e2, pk_un (by omega), e1, pk_un (by omega)]; exact h2
    have hr1 : ra m' (86 + 6 * M + 1) = ra m (86 + 6 * M + 1) := by rw [e2, pk_un (by omega), e1, pk_un (by omega)]
    have hr2 : ra m' (86 + 6 * M + 2) = nI v := by rw [e2, pk_us]
    have hr5 : ra m' (86 + 6 * M + 5) = g := by rw [e2, pk_un (by omega), e1, pk_us]
    have fm : FM m m' M := ((FM.row (j := 5) (by omega) (by omega) rfl _).tr (FM.fr j5)).tr ((FM.row (j := 2) (by omega) (by omega) rfl _).tr (FM.fr j6))
    rw [tsO k hk] at hr
    subst j4
    have fw : FW w (gI (gput (gI (gput w e_shPR_shT_2 u1) 26 s g) e_shPR_shT_2 u2) 24 s (nI v)) s := ((FW.txt u1).tr (FW.put (by omega) _)).tr ((FW.txt u2).tr (FW.put (by omega) _))
    have p2 : (gI (gput (gI (gput w e_shPR_shT_2 u1) 26 s g) e_shPR_shT_2 u2) 24 s (nI v)).1 22 s = w.1 22 s := rfl
    have p5 : (gI (gput (gI (gput w e_shPR_shT_2 u1) 26 s g) e_shPR_shT_2 u2) 24 s (nI v)).1 25 s = w.1 25 s := rfl
    have p4 : (gI (gput (gI (gput w e_shPR_shT_2 u1) 26 s g) e_shPR_shT_2 u2) 24 s (nI v)).1 24 s = nI v := gI_same _ _ _ _
    have p6 : (gI (gput (gI (gput w e_shPR_shT_2 u1) 26 s g) e_shPR_shT_2 u2) 24 s (nI v)).1 26 s = g := by
      rw [gI_ne _ _ _ _ (by omega), gpT1 (by omega)]
      exact gI_same _ _ _ _
    refine Or.inl ⟨_, m', i + 1 + 1, j1, j2, j3, by omega, fw, fm, Or.inr (Or.inr (Or.inr (Or.inr (Or.inr (Or.inr (Or.inr (Or.inr (Or.inr (Or.inr ⟨h1, p4.trans hr2.symm, p6.trans hr5.symm, ?_⟩)))))))))⟩
    rcases hk with rfl | rfl | rfl
    · exact Or.inl ⟨p5.trans h5, hr⟩
    · rcases hc with z | ⟨c, c1, c2, c3⟩
      · exact absurd z (by decide)
      · exact Or.inr (Or.inl ⟨p5.trans h5, hr, c, c1, p2.trans c2, hr1.trans c3⟩)
    · rcases hc with z | ⟨c, c1, c2, c3⟩
      · exact absurd z (by decide)
      · exact Or.inr (Or.inr ⟨p5.trans h5, hr, c, c1, p2.trans c2, hr1.trans c3⟩)
  · exact Or.inr ⟨w', m', j1, j2, j3, j4⟩
theorem ro_32 {k : Nat} (hk : k = 1 ∨ k = 2 ∨ k = 3) (h : SY (gsub w e_shPR_shT_2) m B n T i) (hn : NE (gsub w e_shPR_shT_2) m) (hO : tO B (tp B i)) (hs : s < 30) (hM : M < 60) (hb : BK w m nc nk) (h1 : w.1 21 s = (23 : Int32)) : RO w m B n T i s M nc nk (f_X6_readTest_32 (nI s) (tsK k) w) (f_X11_test_29 (nI (1902 + 6 * M)) (tsM k) m) := by
  have s0 : SY (gsub (gI w 25 s (tsK k)) e_shPR_shT_2) (gI m 1 (1902 + 6 * M) ((2300 : Int32) + tsM k)) B n T i := SY.mv (u := gsub (gI w 25 s (tsK k)) e_shPR_shT_2) (m := m) h (fun _ _ => rfl) rfl
  obtain ⟨u1, m1, g1, g2, g3, g4, g5, g6⟩ := y_adv s0 hn hO
  unfold f_X6_readTest_32 f_X11_test_29
  rw [put_eq hs, Option.bind_some, if_pos (gin_nI (by omega) (by omega)), nI_clamp (by omega), g1, g2, Option.bind_some, Option.bind_some]
  have er : ra m1 = upd (ra m) (86 + 6 * M + 0) ((2300 : Int32) + tsM k) := ra_new (j := 0) g6
  have er0 : ra m1 (86 + 6 * M) = (2300 : Int32) + tsM k := by rw [er]; exact pk_us
  have s1 : SY (gsub (gput (gI w 25 s (tsK k)) e_shPR_shT_2 u1) e_shPR_shT_2) m1 B n T (i + 1) := g3
  have fw : FW w (gput (gI w 25 s (tsK k)) e_shPR_shT_2 u1) s := (FW.put (by omega) _).tr (FW.txt u1)
  have fm : FM m m1 M := (FM.row (j := 0) (by omega) (by omega) rfl _).tr (FM.fr g6)
  have p5 : (gput (gI w 25 s (tsK k)) e_shPR_shT_2 u1).1 25 s = tsK k := by
    rw [gpT1 (by omega)]
    exact gI_same _ _ _ _
  by_cases k1 : k = 1
  · subst k1
    rw [if_pos (show tsK 1 = (1 : Int32) by decide), if_pos (show tsM 1 = (1 : Int32) by decide)]
    exact (ro_74 (Or.inl rfl) s1 g4 hs hM h1 p5 er0 (Or.inl rfl)).one (by omega) fw fm
  · have e1 : ¬ tsK k = (1 : Int32) := by rcases hk with rfl | rfl | rfl; exact absurd rfl k1; decide; decide
    have e2 : ¬ tsM k = (1 : Int32) := by rcases hk with rfl | rfl | rfl; exact absurd rfl k1; decide; decide
    rw [if_neg e1, if_neg e2, nq_addL]
    rcases r_name1 (a1 := 22) (j := 1) (Or.inl rfl) (by omega) s1 g4 hs hM (hb.mv fw fm.1) with ⟨w2, m2, u2, c, j1, j2, j3, j4, j5, j6, j7, j8, j9⟩ | ⟨w2, m2, j1, j2, j3, j4⟩
    · rw [j1, show F_X11_clerkTo (nI (1902 + 6 * M + OfNat.ofNat 1)) m1 = _ from j2, Option.bind_some, Option.bind_some, if_neg one_ne, if_neg one_ne]
      have q1 : w2.1 21 s = (23 : Int32) := by rw [j4]; exact h1
      have q5 : w2.1 25 s = tsK k := by
        rw [j4, gI_ne _ _ _ _ (by omega), gpT1 (by omega)]; exact p5
      have q2 : w2.1 22 s = nI c := by rw [j4]; exact gI_same _ _ _ _
      have r0 : ra m2 (86 + 6 * M) = (2300 : Int32) + tsM k := by rw [j5, pk_un (by omega)]; exact er0
      have r1 : ra m2 (86 + 6 * M + 1) = nI c := by rw [j5, pk_us]
      exact (ro_74 hk j3.1 j3.2 hs hM q1 q5 r0 (Or.inr ⟨c, j6, q2, r1⟩)).one (by omega) (fw.tr j7) (fm.tr j8)
    · rw [j1, show F_X11_clerkTo (nI (1902 + 6 * M + OfNat.ofNat 1)) m1 = _ from j2]
      exact Or.inr ⟨w2, m2, rfl, rfl, j3, fm.1.tr j4⟩
theorem kmap_t : ∀ k : Fin 28, k.val = 1 ∨ k.val = 4 ∨ k.val = 24 ∨ (¬ kmap (nI k.val) = 1 ∧ ¬ kmap (nI k.val) = 3 ∧ ¬ kmap (nI k.val) = 27) := by decide +kernel
theorem ro_test (h : SY (gsub w e_shPR_shT_2) m B n T i) (hn : NE (gsub w e_shPR_shT_2) m) (hs : s < 30) (hM : M < 60) (hb : BK w m nc nk) (h1 : w.1 21 s = (23 : Int32)) : RO w m B n T i s M nc nk (F_X6_readTest (nI s) w) (F_X11_test (nI (1902 + 6 * M)) m) := by
  have hw := y_inw h
  have hw1 : F_X11_inWords m = some (kmap (w.1 2 2)) := hw.1
  have hw2 : w.1 2 2 = (-1 : Int32) ∨ ∃ k, k < 28 ∧ w.1 2 2 = nI k ∧ tO B (tp B i) ∧ tK B (tp B i) = 1 := hw.2
  have hOk : ∀ k, k < 28 → w.1 2 2 = nI k → tO B (tp B i) := by
    intro k hk e
    rcases hw2 with z | ⟨j, _, _, z, _⟩
    · exact absurd (e.symm.trans z) (nI_nm (by omega))
    · exact z
  unfold F_X6_readTest F_X11_test
  rw [hw1, Option.bind_some]
  by_cases k4 : w.1 2 2 = (4 : Int32)
  · rw [if_pos k4, k4, show kmap 4 = (3 : Int32) by decide, if_neg (by decide), if_pos rfl]
    exact ro_32 (k := 2) (Or.inr (Or.inl rfl)) h hn (hOk 4 (by omega) k4) hs hM hb h1
  by_cases k24 : w.1 2 2 = (24 : Int32)
  · rw [if_neg k4, if_pos k24, k24, show kmap 24 = (27 : Int32) by decide, if_neg (by decide), if_neg (by decide), if_pos rfl]
    exact ro_32 (k := 3) (Or.inr (Or.inr rfl)) h hn (hOk 24 (by omega) k24) hs hM hb h1
  by_cases k1 : w.1 2 2 = (1 : Int32)
  · rw [if_neg k4, if_neg k24, if_pos k1, k1, show kmap 1 = (1 : Int32) by decide, if_pos rfl]
    exact ro_32 (k := 1) (Or.inl rfl) h hn (hOk 1 (by omega) k1) hs hM hb h1
  rw [if_neg k4, if_neg k24, if_neg k1]
  have kb : ¬ kmap (w.1 2 2) = 1 ∧ ¬ kmap (w.1 2 2) = 3 ∧ ¬ kmap (w.1 2 2) = 27 := by
    rcases hw2 with z | ⟨k, hk, z, _⟩
    · rw [z]; decide
    · rw [z] at k1 k4 k24 ⊢
      rcases kmap_t ⟨k, hk⟩ with q | q | q | kb
      · exact absurd (congrArg nI q) k1
      · exact absurd (congrArg nI q) k4
      · exact absurd (congrArg nI q) k24
      · exact kb
  rw [if_neg kb.1, if_neg kb.2.1, if_neg kb.2.2]
  rcases y_here h hn (fun _ _ => False) with ⟨_, _, _, _, z⟩ | ⟨u', m', j1, j2, j3, j4⟩
  · exact z.elim
  · rw [j1, j2]
    exact Or.inr ⟨_, m', rfl, rfl, j3, j4.km⟩
theorem ro_nil {k k' : Int32} (hk : (k = 21 ∧ k' = 21) ∨ (k = 22 ∧ k' = 22) ∨ (k = 27 ∧ k' = 26)) (h : SY (gsub w e_shPR_shT_2) m B n T i) (hn : NE (gsub w e_shPR_shT_2) m) (h1 : w.1 21 s = k) (h2 : ra m (86 + 6 * M) = k') : RO w m B n T i s M nc nk (some (1, w)) (some (1, m)) := by
  refine Or.inl ⟨w, m, i, rfl, rfl, ⟨h, hn⟩, Nat.le_refl i, FW.rf, FM.rf, ?_⟩
  rcases hk with ⟨rfl, rfl⟩ | ⟨rfl, rfl⟩ | ⟨rfl, rfl⟩
  · exact Or.inr (Or.inr (Or.inr (Or.inr (Or.inr (Or.inr (Or.inl ⟨h1, h2⟩))))))
  · exact Or.inr (Or.inr (Or.inr (Or.inr (Or.inr (Or.inr (Or.inr (Or.inl ⟨h1, h2⟩)))))))
  · exact Or.inr (Or.inr (Or.inr (Or.inr (Or.inr (Or.inr (Or.inr (Or.inr (Or.inl ⟨h1, h2⟩))))))))
theorem ro_rest {k : Nat} (hk : k = 15 ∨ k = 16 ∨ k = 17 ∨ k = 18 ∨ k = 19 ∨ k = 20 ∨ k = 21 ∨ k = 22 ∨ k = 23 ∨ k = 25 ∨ k = 27) (h : SY (gsub w e_shPR_shT_2) m B n T i) (hn : NE (gsub w e_shPR_shT_2) m) (hs : s < 30) (hM : M < 60) (hb : BK w m nc nk) (h1 : w.1 21 s = nI k) (h2 : ra m (86 + 6 * M) = kmap (nI k)) : RO w m B n T i s M nc nk (F_X6_readRest (nI k) (nI s) w) (F_X11_decadeOrder (kmap (nI k)) (nI (1902 + 6 * M)) m) := by
  unfold F_X6_readRest F_X11_decadeOrder
  rw [nq_addL, nq_addL]
  rcases hk with rfl | rfl | rfl | rfl | rfl | rfl | rfl | rfl | rfl | rfl | rfl
  · exact (ro_yr h hn hs hM h1 h2).bb
  · exact ro_move h hn hs hM hb h1 h2
  · exact ro_swap h hn hs hM hb h1 h2
  · exact ro_fan h hn hs hM hb h1 h2
  · exact (ro_dust (Or.inl rfl) h hn hs hM hb h1 h2).bb
  · exact (ro_dust (Or.inr rfl) h hn hs hM hb h1 h2).bb
  · exact ro_nil (Or.inl ⟨rfl, rfl⟩) h hn h1 h2
  · exact ro_nil (Or.inr (Or.inl ⟨rfl, rfl⟩)) h hn h1 h2
  · exact (ro_test h hn hs hM hb h1).bb
  · exact (ro_loop h hn hs hM h1 h2).bb
  · exact ro_nil (Or.inr (Or.inr ⟨rfl, rfl⟩)) h hn h1 h2
end
