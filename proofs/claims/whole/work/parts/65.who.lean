/-! Games: both play. -/
def tb : Nat → Nat
  | 0 => 1
  | j + 1 => 1 + 8 * tb j
section
variable {x m : GW} {a a0 : Nat → Int32} {nc nr nk nl n : Nat} {t : Int32}
theorem and_not {s c : Nat} (hs : s < 64) (hc : c < 6) (h : s.testBit c = false) : nI (s ||| 2 ^ c) &&& (nI (2 ^ c) ^^^ (-1 : Int32)) = nI s :=
  (by decide +kernel : ∀ i : Fin 64, ∀ j : Fin 6, i.val.testBit j.val = false → nI (i.val ||| 2 ^ j.val) &&& (nI (2 ^ j.val) ^^^ (-1 : Int32)) = nI i.val) ⟨s, hs⟩ ⟨c, hc⟩ h
theorem Wg_S (m : GW) (a : Nat → Int32) (S : Int32) (D O G B : Nat → Int32) : (Wg m a S D O G B).1 0 31 = S := by
  show upd (m.1 0) 31 S 31 = S
  exact pk_us
/-- how a level stands with d of its deeds done -/
def PSt (a : Nat → Int32) (nk l s d : Nat) (A : Nat → Int32) (S : Int32) (D O : Nat → Int32) : Prop :=
  D l = nI d - (1 : Int32) ∧ ((O l = (-1 : Int32) ∧ A = a ∧ S = nI s) ∨ ∃ c, c < nk ∧ d = c + 1 ∧ s.testBit c = false ∧ O l = a (27 + 7 * c + 2) ∧ A = mdR a l c ∧ S = nI (s ||| 2 ^ c))
theorem m_leave (hi : Bi a nc nr nk nl) {l s d : Nat} (hl : l < 5) (hs : s < 2 ^ nk) {A : Nat → Int32} {S : Int32} {D O G B : Nat → Int32} (h : PSt a nk l s d A S D O) : ∃ O', O' l = (-1 : Int32) ∧ (∀ i, i < l → O' i = O i) ∧ F_X11_leavesOff (nI l) (Wg m A S D O G B) = some (Wg m a (nI s) D O' G B) := by
  have hn := hi.cnt
  have h64 : 2 ^ nk ≤ 64 := by
    have h2 : 2 ^ nk ≤ 2 ^ 6 := Nat.pow_le_pow_right (by decide) (by omega)
    exact h2
  obtain ⟨hD, h⟩ := h
  unfold F_X11_leavesOff
  rw [if_pos (gin_nI hl (by omega)), nI_clamp (by omega), show (Wg m A S D O G B).1 12 l = O l from rfl, show (Wg m A S D O G B).1 11 l = D l from rfl, Wg_S]
  rcases h with ⟨h1, rfl, rfl⟩ | ⟨c, hc, rfl, hsc, hO, rfl, rfl⟩
  · exact ⟨O, h1, fun i _ => rfl, by rw [if_pos h1]⟩
  · obtain ⟨g, hg, eg⟩ := hi.grey hc
    refine ⟨upd O l (-1), pk_us, fun i hi => pk_un (by omega), ?_⟩
    rw [hO, eg, if_neg (nI_nm (by omega)), hD, nI_pred, m_clerkRow, Option.bind_some, nq_addL, if_pos (gin_nI (by show 27 + 7 * c + 2 < 2356; omega) (by omega)), nI_clamp (n := 27 + 7 * c + 2) (by omega), gI_Wga, gI_WgO, gI_WgS, one_shl (by omega), and_not (by omega) (by omega) hsc]
    have e : upd (mdR a l c) (27 + 7 * c + 2) (nI g) = a := by
      funext k
      unfold mdR
      by_cases e1 : k = 27 + 7 * c + 2
      · rw [e1, pk_us, eg]
      · rw [pk_un e1, pk_un e1]
    rw [e]
/-- what is done behind the last deed of a level -/
def pst (n' : Nat) (r q : Int32) (l : Nat) (w : GW) : Option (Int32 × GW) :=
  if nI l = 0 then some (w.1 13 0, w) else (if gin ((nI l + (-1 : Int32)) + (1 : Int32)) 5 then ((F_X11_settles (nI l + (-1 : Int32)) (w.1 13 ((nI l + (-1 : Int32)) + (1 : Int32)).toNatClampNeg) w).bind fun q12 => f_X11_playing_22 n' r q (nI l + (-1 : Int32)) q12) else none)
theorem m_choose (hi : Bi a nc nr nk nl) {l s d : Nat} (hl : l < 5) (hd : d < nk) (hs : s < 2 ^ nk) {D O G B : Nat → Int32} (hD : D l = nI d) : F_X11_chooses (nI l) (Wg m a (nI s) D O G B) = some (Wg m (mdR a l d) (nI (s ||| 2 ^ d)) D (upd O l (a (27 + 7 * d + 2))) G B) := by
  have hn := hi.cnt
  unfold F_X11_chooses f_X11_chooses_65
  rw [if_pos (gin_nI hl (by omega)), nI_clamp (by omega), show (Wg m a (nI s) D O G B).1 11 l = D l from rfl, hD, show (Wg m a (nI s) D O G B).1 1 2 = nI nk from hi.n2, if_neg (fun e => by have := (nI_eq (by omega) (by omega)).mp e; omega), m_clerkRow, Option.bind_some, nq_addL, if_pos (gin_nI (by show 27 + 7 * d + 2 < 2356; omega) (by omega)), if_pos (gin_nI (by show 27 + 7 * d + 2 < 2356; omega) (by omega))]
  simp only [nI_clamp (n := 27 + 7 * d + 2) (show 27 + 7 * d + 2 < 2 ^ 31 by omega)]
  rw [gI_WgO, show (Wg m a (nI s) D O G B).1 1 (27 + 7 * d + 2) = a (27 + 7 * d + 2) from rfl, m_greyThen (m := Wg m a (nI s) D (upd O l (a (27 + 7 * d + 2))) G B) hi hd, Option.bind_some]
  have e31 : ∀ (a' : Nat → Int32), (Wg m a' (nI s) D (upd O l (a (27 + 7 * d + 2))) G B).1 0 31 = nI s := fun a' => Wg_S _ _ _ _ _ _ _
  by_cases ev : l % 2 = 0
  · rw [if_pos (by rw [even_iff (by omega)]; exact ev), if_pos (gin_nI (by omega) (by omega)), gI_Wga, e31, one_shl (by omega), nI_or, gI_WgS]
    unfold mdR
    rw [if_pos ev]
    rfl
  · rw [if_neg (by rw [even_iff (by omega)]; exact ev), gI_Wga, e31, one_shl (by omega), nI_or, gI_WgS]
    unfold mdR
    rw [if_neg ev]
/-- from deed d of a level on to its end -/
def PL (m : GW) (a0 : Nat → Int32) (t : Int32) (nc nr nk nl n r j l e d : Nat) : Prop :=
  ∀ (a : Nat → Int32) (s : Nat) (A : Nat → Int32) (S : Int32) (D O G B : Nat → Int32), Bi a nc nr nk nl → AG a0 a nk s → s < 2 ^ nk → PSt a nk l s d A S D O → Bst a0 t nk n (agS a t nk) j s d (G l) (B l) → ∃ (N : Nat) (D' O' G' B' : Nat → Int32), N ≤ tb j * (e + 1) ∧ (∀ i, i < l → D' i = D i ∧ O' i = O i ∧ G' i = G i ∧ B' i = B i) ∧ O' l = (-1 : Int32) ∧ Bst a0 t nk n (agS a t nk) j s (nk + 1) (G' l) (B' l) ∧ ∀ n', f_X11_playing_22 (n' + N) (nI r) (nI n) (nI l) (Wg m A S D O G B) = pst n' (nI r) (nI n) l (Wg m a (nI s) D' O' G' B')
theorem Bst.skip {K : Int} {j s d : Nat} {G B : Int32} (h : Bst a0 t nk n K j s d G B) (hv : ¬ vld nk s d) : Bst a0 t nk n K j s (d + 1) G B := by
  rcases h with ⟨h1, h2⟩ | ⟨b, v, h1, h2, h3, h4, h5, h6, h7⟩
  · refine Or.inl ⟨h1, fun e he => ?_⟩
    by_cases e2 : e = d
    · rw [e2]; exact hv
    · exact h2 e (by omega)
  · refine Or.inr ⟨b, v, by omega, h2, h3, h4, h5, fun e he hve => ?_, h7⟩
    by_cases e2 : e = d
    · rw [e2] at hve; exact absurd hve hv
    · exact h6 e (by omega) hve
theorem tb_pos : ∀ j, 1 ≤ tb j
  | 0 => Nat.le_refl 1
  | j + 1 => by show 1 ≤ 1 + 8 * tb j; omega
theorem PL.last (hi0 : Bi a0 nc nr nk nl) {r j l : Nat} (hl : l < 5) : PL m a0 t nc nr nk nl n r j l 0 (nk + 1) := by
  intro a s A S D O G B hi hag hs hP hB
  have hn := hi.cnt
  obtain ⟨O', h1, h2, h3⟩ := m_leave (m := m) (G := G) (B := B) hi hl hs hP
  refine ⟨1, upd D l (nI (nk + 1)), O', G, B, by have := tb_pos j; omega, fun i hi => ⟨pk_un (by omega), h2 i hi, rfl, rfl⟩, h1, hB, fun n' => ?_⟩
  show b_X11_playing_22 (f_X11_playing_22 n') (nI r) (nI n) (nI l) (Wg m A S D O G B) = _
  unfold b_X11_playing_22 pst
  have eD : D l + (1 : Int32) = nI (nk + 1) := by
    rw [hP.1, Int32.sub_add_cancel]
  rw [h3, Option.bind_some, if_pos (gin_nI (by omega) (by omega)), nI_clamp (n := l) (by omega), gI_WgD, show (Wg m a (nI s) D O' G B).1 11 l + (1 : Int32) = nI (nk + 1) from eD, show (Wg m a (nI s) (upd D l (nI (nk + 1))) O' G B).1 11 l = nI (nk + 1) from pk_us, show (Wg m a (nI s) D O' G B).1 1 2 = nI nk from hi.n2, if_neg (nI_ge (by omega) (by omega))]
  rfl
theorem PL.step (hi0 : Bi a0 nc nr nk nl) {r : Nat} (hr : r < nr) (ht : t = a0 (17 + 2 * r)) (hn4 : n ≤ 4) {j l e d : Nat} (hl : l + (j + 1) = n) (hd : d + (e + 1) = nk + 1) (hE : PL m a0 t nc nr nk nl n r j l e (d + 1)) (hJ : j = 0 ∨ ∃ j', j = j' + 1 ∧ PL m a0 t nc nr nk nl n r j' (l + 1) (nk + 1) 0) : PL m a0 t nc nr nk nl n r j l (e + 1) d := by
  intro a s A S D O G B hi hag hs hP hB
  have hn := hi.cnt
  have h64 := p256 (n := nk) (by omega)
  have hK := agS_b a t nk
  have htb := tb_pos j
  have hmul : tb j * (e + 1 + 1) = tb j * (e + 1) + tb j := Nat.mul_succ _ _
  obtain ⟨O1, h1, h2, h3⟩ := m_leave (m := m) (G := G) (B := B) hi (show l < 5 by omega) hs hP
  have eD : D l + (1 : Int32) = nI d := by
    rw [hP.1, Int32.sub_add_cancel]
  have et : a (17 + 2 * r) = t := by
    rw [ht]
    exact hag _ (fun c hc _ => by omega)
  have head : ∀ k22 : Int32 → Int32 → Int32 → GW → Option (Int32 × GW), b_X11_playing_22 k22 (nI r) (nI n) (nI l) (Wg m A S D O G B) = (if nI nk ≤ nI d then f_X11_playing_109 k22 (nI r) (nI n) (nI l) (Wg m a (nI s) (upd D l (nI d)) O1 G B) else (if s.testBit d = true then k22 (nI r) (nI n) (nI l) (Wg m a (nI s) (upd D l (nI d)) O1 G B) else f_X11_playing_109 k22 (nI r) (nI n) (nI l) (Wg m a (nI s) (upd D l (nI d)) O1 G B))) := by
    intro k22
    unfold b_X11_playing_22
    rw [h3, Option.bind_some, if_pos (gin_nI (by omega) (by omega)), nI_clamp (n := l) (by omega), gI_WgD, show (Wg m a (nI s) D O1 G B).1 11 l + (1 : Int32) = nI d from eD, show (Wg m a (nI s) (upd D l (nI d)) O1 G B).1 11 l = nI d from pk_us, show (Wg m a (nI s) D O1 G B).1 1 2 = nI nk from hi.n2, if_pos (nI_le (by omega) (by omega)), Wg_S, m_isIn (by omega) (by omega), Option.bind_some]
    by_cases hb : s.testBit d = true
    · rw [if_pos hb, if_neg one_ne, if_pos hb]
    · rw [if_neg hb, if_pos zer_eq, if_neg hb]
  by_cases hskip : d < nk ∧ s.testBit d = true
  · obtain ⟨N, D', O', G', B', q1, q2, q3, q4, q5⟩ := hE a s a (nI s) (upd D l (nI d)) O1 G B hi hag hs ⟨by rw [pk_us]; exact (nI_pred d).symm, Or.inl ⟨h1, rfl, rfl⟩⟩ (hB.skip (fun hv => by
      rcases hv.2 with z | z
      · omega
      · rw [hskip.2] at z; cases z))
    refine ⟨N + 1, D', O', G', B', by omega, fun i hil => ?_, q3, q4, fun n' => ?_⟩
    · obtain ⟨z1, z2, z3, z4⟩ := q2 i hil
      exact ⟨z1.trans (pk_un (by omega)), z2.trans (h2 i hil), z3, z4⟩
    · show b_X11_playing_22 (f_X11_playing_22 (n' + N)) (nI r) (nI n) (nI l) (Wg m A S D O G B) = _
      rw [head, if_neg (nI_ge hskip.1 (by omega)), if_pos hskip.2]
      exact q5 n'
  · have hv : vld nk s d := by
      refine ⟨by omega, ?_⟩
      by_cases e1 : d = nk
      · exact Or.inl e1
      · refine Or.inr ?_
        cases hb : s.testBit d with
        | false => rfl
        | true => exact absurd ⟨by omega, hb⟩ hskip
    have head2 : ∀ k22 : Int32 → Int32 → Int32 → GW → Option (Int32 × GW), b_X11_playing_22 k22 (nI r) (nI n) (nI l) (Wg m A S D O G B) = f_X11_playing_109 k22 (nI r) (nI n) (nI l) (Wg m a (nI s) (upd D l (nI d)) O1 G B) := by
      intro k22
      rw [head]
      by_cases e1 : d < nk
      · rw [if_neg (nI_ge e1 (by omega)), if_neg (fun z => hskip ⟨e1, z⟩)]
      · rw [if_pos (nI_le (by omega) (by omega))]
    have ch : ∃ (A2 : Nat → Int32) (s2 : Nat) (O2 : Nat → Int32), Bi A2 nc nr nk nl ∧ AG a0 A2 nk s2 ∧ s2 < 2 ^ nk ∧ agS A2 t nk + Rj a0 t nk n j s2 = vlu a0 t nk n (agS a t nk) j s d ∧ PSt a nk l s (d + 1) A2 (nI s2) (upd D l (nI d)) O2 ∧ (∀ i, i < l → O2 i = O i) ∧ F_X11_chooses (nI l) (Wg m a (nI s) (upd D l (nI d)) O1 G B) = some (Wg m A2 (nI s2) (upd D l (nI d)) O2 G B) := by
      by_cases e1 : d = nk
      · refine ⟨a, s, O1, hi, hag, hs, ?_, ⟨by rw [pk_us]; exact (nI_pred d).symm, Or.inl ⟨h1, rfl, rfl⟩⟩, h2, ?_⟩
        · unfold vlu
          rw [if_pos e1]
        · unfold F_X11_chooses
          rw [if_pos (gin_nI (by omega) (by omega)), nI_clamp (by omega), show (Wg m a (nI s) (upd D l (nI d)) O1 G B).1 11 l = nI d from pk_us, show (Wg m a (nI s) (upd D l (nI d)) O1 G B).1 1 2 = nI nk from hi.n2, if_pos (by rw [e1])]
      · have hdn : d < nk := by omega
        have hsd : s.testBit d = false := by
          rcases hv.2 with z | z
          · exact absurd z e1
          · exact z
        refine ⟨mdR a l d, s ||| 2 ^ d, upd O1 l (a (27 + 7 * d + 2)), hi.md hdn l, hag.md hdn l, or_small hs hdn, ?_, ⟨by rw [pk_us]; exact (nI_pred d).symm, Or.inr ⟨d, hdn, rfl, hsd, pk_us, rfl, rfl⟩⟩, fun i hil => (pk_un (by omega)).trans (h2 i hil), m_choose hi (by omega) hdn hs pk_us⟩
        rw [agS_md (by omega) hdn, AG.gain hi0 hag hdn hsd l]
        unfold vlu
        rw [if_neg e1, show n - (j + 1) = l by omega]
        omega
    obtain ⟨A2, s2, O2, c1, c2, c3, c4, c5, c6, c7⟩ := ch
    have cat : A2 (17 + 2 * r) = t := by
      rw [ht]
      exact c2 _ (fun c hc _ => by omega)
    rcases hJ with rfl | ⟨j', rfl, hJ⟩
    · obtain ⟨G1, B1, g1, g2, g3⟩ := m_settle (m := m) (t := t) (a0 := a0) hn4 (j := 0) (l := l) (s := s) (c := d) (K := agS a t nk) (A := A2) (S := nI s2) (D := upd D l (nI d)) (O := O2) (G := G) (B := B) hl (by omega) (by omega) (by omega) pk_us hv hB
      obtain ⟨N, D', O', G', B', q1, q2, q3, q4, q5⟩ := hE a s A2 (nI s2) (upd D l (nI d)) O2 G1 B1 hi hag hs c5 g2
      refine ⟨N + 1, D', O', G', B', by omega, fun i hil => ?_, q3, q4, fun n' => ?_⟩
      · obtain ⟨z1, z2, z3, z4⟩ := q2 i hil
        obtain ⟨y1, y2⟩ := g1 i hil
        exact ⟨z1.trans (pk_un (by omega)), z2.trans (c6 i hil), z3.trans y1, z4.trans y2⟩
      · show b_X11_playing_22 (f_X11_playing_22 (n' + N)) (nI r) (nI n) (nI l) (Wg m A S D O G B) = _
        have hag2 := m_asGrey c1 hr (w := Wg m A2 (nI s2) (upd D l (nI d)) O2 G B) rfl
        rw [cat, show agS A2 t nk = vlu a0 t nk n (agS a t nk) 0 s d by rw [← c4]; show _ = agS A2 t nk + 0; omega] at hag2
        rw [head2]
        unfold f_X11_playing_109 f_X11_playing_142
        rw [c7, Option.bind_some, nI_1, if_pos (by rw [show l + 1 = n by omega]), hag2, Option.bind_some, g3, Option.bind_some]
        exact q5 n'
    · obtain ⟨N1, D3, O3, G3, B3, p1, p2, p3, p4, p5⟩ := hJ A2 s2 A2 (nI s2) (upd (upd D l (nI d)) (l + 1) (-1)) (upd O2 (l + 1) (-1)) G (upd B (l + 1) (-1)) c1 c2 c3 ⟨by rw [pk_us]; decide, Or.inl ⟨pk_us, rfl, rfl⟩⟩ (Or.inl ⟨pk_us, fun e he => absurd he (by omega)⟩)
      obtain ⟨w1, w2, w3, w4⟩ := p2 l (by omega)
      rw [pk_un (by omega), pk_us] at w1
      rw [pk_un (by omega)] at w2 w4
      have hB3 : Bst a0 t nk n (agS a t nk) (j' + 1) s d (G3 l) (B3 l) := by
        rw [w3, w4]
        exact hB
      obtain ⟨G1, B1, g1, g2, g3⟩ := m_settle (m := m) (t := t) (a0 := a0) hn4 (j := j' + 1) (l := l) (s := s) (c := d) (K := agS a t nk) (A := A2) (S := nI s2) (D := D3) (O := O3) (G := G3) (B := B3) hl (by omega) (by omega) (by omega) w1 hv hB3
      have hP2 : PSt a nk l s (d + 1) A2 (nI s2) D3 O3 := by
        obtain ⟨z1, z2⟩ := c5
        refine ⟨by rw [w1]; exact (nI_pred d).symm, ?_⟩
        rw [w2]
        exact z2
      obtain ⟨N, D', O', G', B', q1, q2, q3, q4, q5⟩ := hE a s A2 (nI s2) D3 O3 G1 B1 hi hag hs hP2 g2
      have hbound : tb (j' + 1) = 1 + 8 * tb j' := rfl
      have hN1 : N1 ≤ 8 * tb j' := by
        have h5 : tb j' * (nk + 1 + 1) ≤ tb j' * 8 := Nat.mul_le_mul (Nat.le_refl _) (by omega)
        omega
      refine ⟨N + N1 + 1, D', O', G', B', by omega, fun i hil => ?_, q3, q4, fun n' => ?_⟩
      · obtain ⟨z1, z2, z3, z4⟩ := q2 i hil
        obtain ⟨y1, y2⟩ := g1 i hil
        obtain ⟨v1, v2, v3, v4⟩ := p2 i (by omega)
        exact ⟨z1.trans (v1.trans ((pk_un (by omega)).trans (pk_un (by omega)))), z2.trans (v2.trans ((pk_un (by omega)).trans (c6 i hil))), z3.trans (y1.trans v3), z4.trans (y2.trans (v4.trans (pk_un (by omega))))⟩
      · rw [show n' + (N + N1 + 1) = (n' + N + N1) + 1 by omega]
        show b_X11_playing_22 (f_X11_playing_22 (n' + N + N1)) (nI r) (nI n) (nI l) (Wg m A S D O G B) = _
        rw [head2]
        unfold f_X11_playing_109 f_X11_playing_142
        have hbg : F_X11_beginsAt (nI (l + 1)) (Wg m A2 (nI s2) (upd D l (nI d)) O2 G B) = some (Wg m A2 (nI s2) (upd (upd D l (nI d)) (l + 1) (-1)) (upd O2 (l + 1) (-1)) G (upd B (l + 1) (-1))) := by
          unfold F_X11_beginsAt
          rw [if_pos (gin_nI (by omega) (by omega)), nI_clamp (by omega), gI_WgD, gI_WgB, gI_WgO]
        rw [c7, Option.bind_some, nI_1, if_neg (fun z => by have := (nI_eq (by omega) (by omega)).mp z; omega), hbg, Option.bind_some]
        refine (p5 (n' + N)).trans ?_
        unfold pst
        have eG := p4.fin
        have em : nI (l + 1) + (-1 : Int32) = nI l := by rw [← Int32.sub_eq_add_neg]; exact nI_pred l
        rw [if_neg (nI_ne0 (by omega) (by omega)), em, nI_1, if_pos (gin_nI (by omega) (by omega)), nI_clamp (by omega), show (Wg m A2 (nI s2) D3 O3 G3 B3).1 13 (l + 1) = G3 (l + 1) from rfl, eG, c4, g3, Option.bind_some]
        exact q5 n'
theorem PL.all (hi0 : Bi a0 nc nr nk nl) {r : Nat} (hr : r < nr) (ht : t = a0 (17 + 2 * r)) (hn4 : n ≤ 4) : ∀ (j l : Nat), l + (j + 1) = n → ∀ (e d : Nat), d + e = nk + 1 → PL m a0 t nc nr nk nl n r j l e d := by
  intro j
  induction j with
  | zero =>
    intro l hl e
    induction e with
    | zero => intro d hd; rw [show d = nk + 1 by omega]; exact PL.last hi0 (by omega)
    | succ e ih => intro d hd; exact PL.step hi0 hr ht hn4 hl hd (ih (d + 1) (by omega)) (Or.inl rfl)
  | succ j ihj =>
    intro l hl e
    induction e with
    | zero => intro d hd; rw [show d = nk + 1 by omega]; exact PL.last hi0 (by omega)
    | succ e ih => intro d hd; exact PL.step hi0 hr ht hn4 hl hd (ih (d + 1) (by omega)) (Or.inr ⟨j, rfl, ihj (l + 1) (by omega) (nk + 1) 0 (by omega)⟩)
/-- the reference's whole game -/
theorem m_play (hi0 : Bi (m.1 1) nc nr nk nl) {r : Nat} (hr : r < nr) (hn4 : n ≤ 4) : ∃ (S : Int32) (D O G B : Nat → Int32), F_X11_playing (nI r) (nI n) m = some (jI (agS (m.1 1) (m.1 1 (17 + 2 * r)) nk + Rj (m.1 1) (m.1 1 (17 + 2 * r)) nk n n 0), Wg m (m.1 1) S D O G B) ∧ (1 ≤ n → Bst (m.1 1) (m.1 1 (17 + 2 * r)) nk n (agS (m.1 1) (m.1 1 (17 + 2 * r)) nk) (n - 1) 0 (nk + 1) (G 0) (B 0)) := by
  by_cases h0 : n = 0
  · subst h0
    refine ⟨m.1 0 31, m.1 11, m.1 12, m.1 13, m.1 14, ?_, fun h => absurd h (by omega)⟩
    · unfold F_X11_playing
      rw [if_pos nI_0, m_asGrey hi0 hr rfl, Option.bind_some, ← Wg_id]
      rw [show Rj (m.1 1) (m.1 1 (17 + 2 * r)) nk 0 0 0 = 0 from rfl, Int.add_zero]
  · have hag : AG (m.1 1) (m.1 1) nk 0 := fun k _ => rfl
    obtain ⟨N, D', O', G', B', q1, q2, q3, q4, q5⟩ := PL.all (m := m) (t := m.1 1 (17 + 2 * r)) hi0 hr rfl hn4 (n - 1) 0 (by omega) (nk + 1) 0 (by omega) (m.1 1) 0 (m.1 1) (nI 0) (upd (m.1 11) 0 (-1)) (upd (m.1 12) 0 (-1)) (m.1 13) (upd (m.1 14) 0 (-1)) hi0 hag (Nat.two_pow_pos nk) ⟨by rw [pk_us]; decide, Or.inl ⟨pk_us, rfl, rfl⟩⟩ (Or.inl ⟨pk_us, fun e he => absurd he (by omega)⟩)
    refine ⟨nI 0, D', O', G', B', ?_, fun _ => q4⟩
    have hn := hi0.cnt
    have hN : N ≤ 10000 := by
      have h5 : tb (n - 1) ≤ tb 3 := by
        have : n - 1 = 0 ∨ n - 1 = 1 ∨ n - 1 = 2 ∨ n - 1 = 3 := by omega
        rcases this with z | z | z | z <;> rw [z] <;> decide
      have h6 : tb (n - 1) * (nk + 1 + 1) ≤ tb 3 * 8 := Nat.mul_le_mul h5 (by omega)
      have h7 : tb 3 = 585 := by decide
      omega
    have e1 : gI m 0 31 (0 : Int32) = Wg m (m.1 1) (nI 0) (m.1 11) (m.1 12) (m.1 13) (m.1 14) := by
      have h8 := gI_WgS m (m.1 1) (m.1 0 31) (m.1 11) (m.1 12) (m.1 13) (m.1 14) (0 : Int32)
      rw [← Wg_id] at h8
      exact h8
    have hbg : F_X11_beginsAt (0 : Int32) (gI m 0 31 (0 : Int32)) = some (Wg m (m.1 1) (nI 0) (upd (m.1 11) 0 (-1)) (upd (m.1 12) 0 (-1)) (m.1 13) (upd (m.1 14) 0 (-1))) := by
      unfold F_X11_beginsAt
      rw [if_pos (by decide), show (0 : Int32).toNatClampNeg = 0 by decide, e1, gI_WgD, gI_WgB, gI_WgO]
    have hq := q5 (FU - N)
    rw [show FU - N + N = FU by have := FU_big; omega] at hq
    unfold F_X11_playing
    rw [if_neg (nI_ne0 (by omega) (by omega)), hbg, Option.bind_some, show f_X11_playing_22 FU (nI r) (nI n) (0 : Int32) (Wg m (m.1 1) (nI 0) (upd (m.1 11) 0 (-1)) (upd (m.1 12) 0 (-1)) (m.1 13) (upd (m.1 14) 0 (-1))) = _ from hq]
    unfold pst
    rw [if_pos nI_0, show (Wg m (m.1 1) (nI 0) D' O' G' B').1 13 0 = G' 0 from rfl, q4.fin, show n - 1 + 1 = n by omega]
theorem RR.game (h : RR x m) (t : Int32) (nk n : Nat) (S : Int32) (D O G B : Nat → Int32) : RR (gput x e_shX_shGB_134_14 (bdW (gsub x e_shX_shGB_134_14) (m.1 1) t nk n)) (Wg m (m.1 1) S D O G B) :=
  ⟨h.1, h.2.1, h.2.2.1, h.2.2.2.1, h.2.2.2.2.1, h.2.2.2.2.2⟩
theorem board_gain (hi : Bi a nc nr nk nl) (hn4 : n ≤ 4) {j l s : Nat} (hl : l + j = n) (hs : s < 2 ^ nk) : F_X10_gainFrom (gsub (gput x e_shX_shGB_134_14 (bdW (gsub x e_shX_shGB_134_14) a t nk n)) e_shX_shG_134) (nI l) (nI s) = some (jI (Rj a t nk n j s)) := by
  have hn := hi.cnt
  have e00 : (upd (upd ((gsub x e_shX_shGB_134_14).1 0) 0 (nI nk)) 1 (nI n)) 0 = nI nk := by rw [pk_un (by omega), pk_us]
  have e01 : (upd (upd ((gsub x e_shX_shGB_134_14).1 0) 0 (nI nk)) 1 (nI n)) 1 = nI n := pk_us
  exact x_gain (b := gsub (gput x e_shX_shGB_134_14 (bdW (gsub x e_shX_shGB_134_14) a t nk n)) e_shX_shG_134) (by omega) hn4 e00 e01 (fun c hc => fil_in hc) (fun c hc => fil_in hc) (fun c hc => fil_in hc) j 6 l s hl (by omega) hs
theorem s_game (h : RR x m) (u v : Int32) : Sm (F_X10_game u v x) (F_X11_game u v m) := by
  obtain ⟨nc, nr, nk, nl, hb, hi⟩ := h.bnk
  have hn := hi.cnt
  unfold F_X10_game F_X11_game f_X10_game_20 f_X11_game_33
  rw [x_hasRank hb hi, m_isRank hi, show F_X10_between v (0 : Int32) (4 : Int32) = some (if btw v 0 4 then 1 else 0) from x_btw v 0 4, show F_X11_isFrom v.toInt64 (0 : Int64) (4 : Int64) = some (if btw v 0 4 then 1 else 0) from m_from v (p := 0) (q := 4) (by omega) (by omega)]
  simp only [F_X10_answer, F_X10_refuse, F_X10_answerOrRefuse, F_X10_grant, F_X10_deny, F_X11_gives, F_X11_refuse, F_X11_orNone, F_X11_is, Option.bind_some, ite01]
  rw [if_and, if_and]
  by_cases hu : gin u nr ∧ btw v 0 4
  · obtain ⟨r, hr, rfl⟩ := gin_of hu.1 (by omega)
    obtain ⟨n, _, hn4, rfl⟩ := btw_of hu.2 (by omega) (by omega)
    have hb2 : Bq (gsub (gsub x e_shX_shGB_134_14) e_shGB_shB_4) (m.1 1) (m.2 2) nc nr nk nl := hb
    obtain ⟨S, D, O, G, B, e1, _⟩ := m_play (n := n) hi hr hn4
    have e00 : (upd (upd ((gsub x e_shX_shGB_134_14).1 0) 0 (nI nk)) 1 (nI n)) 0 = nI nk := by rw [pk_un (by omega), pk_us]
    have e2 : F_X2_standing (gsub (gput x e_shX_shGB_134_14 (bdW (gsub x e_shX_shGB_134_14) (m.1 1) (m.1 1 (17 + 2 * r)) nk n)) e_shX_shG_134) = some (jI (agS (m.1 1) (m.1 1 (17 + 2 * r)) nk)) := x_stand_l (a := m.1 1) (t := m.1 1 (17 + 2 * r)) (b := gsub (gput x e_shX_shGB_134_14 (bdW (gsub x e_shX_shGB_134_14) (m.1 1) (m.1 1 (17 + 2 * r)) nk n)) e_shX_shG_134) (by omega) e00 (fun c hc => fil_in hc) nk FU 0 0 (by omega) (by have := FU_big; omega)
    rw [if_pos hu, if_pos hu, if_pos (gin_nI (by omega) (by omega)), nI_clamp (by omega), show x.1 16 r = m.1 1 (17 + 2 * r) from hb.at hr, x_prep hb2 hi, Option.bind_some, e2, Option.bind_some, show F_X10_gainFrom (gsub (gput x e_shX_shGB_134_14 (bdW (gsub x e_shX_shGB_134_14) (m.1 1) (m.1 1 (17 + 2 * r)) nk n)) e_shX_shG_134) (0 : Int32) (0 : Int32) = _ from board_gain hi hn4 (j := n) (l := 0) (s := 0) (by omega) (Nat.two_pow_pos nk), Option.bind_some, jI_add, e1, Option.bind_some]
    exact Sm.fin (h.game _ _ _ _ _ _ _ _) _ _
  · rw [if_neg hu, if_neg hu]
    exact Sm.fin h _ _
theorem who_l (h : RR x m) (hi : Bi (m.1 1) nc nr nk nl) (hn4 : n ≤ 4) (hn1 : 1 ≤ n) {m' : GW} (hm : RR (gput x e_shX_shGB_134_14 (bdW (gsub x e_shX_shGB_134_14) (m.1 1) t nk n)) m') {G B : Int32} (hB : Bst (m.1 1) t nk n (agS (m.1 1) t nk) (n - 1) 0 (nk + 1) G B) : ∀ k n1 c, c + k = nk → k < n1 → (∀ e, e < c → vlu (m.1 1) t nk n 0 (n - 1) 0 e ≠ Rj (m.1 1) t nk n n 0) → Sm (f_X10_who_60 n1 (jI (Rj (m.1 1) t nk n n 0)) (nI c) (gput x e_shX_shGB_134_14 (bdW (gsub x e_shX_shGB_134_14) (m.1 1) t nk n))) (if B = nI nk then some ((-1 : Int32), gI m' 0 2 6) else some (B, gI m' 0 2 0)) := by
  have hn := hi.cnt
  have e00 : (upd (upd ((gsub x e_shX_shGB_134_14).1 0) 0 (nI nk)) 1 (nI n)) 0 = nI nk := by rw [pk_un (by omega), pk_us]
  have hRb := Rj_b (m.1 1) t nk n n 0
  have hfin := hB.fin
  rw [show n - 1 + 1 = n by omega] at hfin
  have hag := agS_b (m.1 1) t nk
  -- what the reference's choice is
  obtain ⟨b, hbv, hbe, hbval, hbfirst⟩ : ∃ b, vld nk 0 b ∧ B = nI b ∧ vlu (m.1 1) t nk n 0 (n - 1) 0 b = Rj (m.1 1) t nk n n 0 ∧ ∀ e, e < b → vld nk 0 e → vlu (m.1 1) t nk n 0 (n - 1) 0 e ≠ Rj (m.1 1) t nk n n 0 := by
    rcases hB with ⟨_, z⟩ | ⟨b, v, z1, z2, z3, z4, z5, z6, z7⟩
    · exact absurd ⟨Nat.le_refl nk, Or.inl rfl⟩ (z nk (by omega))
    · have hvb := vlu_b (m.1 1) t (nk := nk) (n := n) (j := n - 1) (by omega) (K := agS (m.1 1) t nk) (by omega) 0 b
      have hv : v = agS (m.1 1) t nk + Rj (m.1 1) t nk n n 0 := by
        have := z4.symm.trans hfin
        exact (jI_eq (by omega) (by omega)).mp this
      refine ⟨b, z2, z3, ?_, fun e he hve q => ?_⟩
      · rw [vlu_K] at z5; omega
      · refine z7 e he hve ?_
        rw [vlu_K, q, hv]
  have hb6 := hbv.1
  intro k
  induction k with
  | zero =>
    intro n1 c e h1 hno
    obtain ⟨n1, rfl⟩ := fu_pos h1
    show Sm (b_X10_who_60 _ _ (nI c) _) _
    unfold b_X10_who_60
    rw [show (gput x e_shX_shGB_134_14 (bdW (gsub x e_shX_shGB_134_14) (m.1 1) t nk n)).1 134 0 = nI nk from e00, if_pos (nI_le (by omega) (by omega))]
    have hbn : b = nk := by
      apply Classical.byContradiction
      intro q
      exact hno b (by omega) hbval
    rw [if_pos (by rw [hbe, hbn])]
    exact Sm.fin hm _ _
  | succ k ih =>
    intro n1 c e h1 hno
    obtain ⟨n1, rfl⟩ := fu_pos h1
    have hg := gn_b (m.1 1) t 0 c
    have hR1 := Rj_b (m.1 1) t nk n (n - 1) (0 ||| 2 ^ c)
    have hv : vld nk 0 c := ⟨by omega, Or.inr (by simp)⟩
    have ev : vlu (m.1 1) t nk n 0 (n - 1) 0 c = gn (m.1 1) t 0 c + Rj (m.1 1) t nk n (n - 1) (2 ^ c) := by
      unfold vlu
      rw [if_neg (by omega), show n - (n - 1 + 1) = 0 by omega, Nat.zero_or]
      omega
    rw [Nat.zero_or] at hR1
    show Sm (b_X10_who_60 _ _ (nI c) _) _
    unfold b_X10_who_60
    rw [show (gput x e_shX_shGB_134_14 (bdW (gsub x e_shX_shGB_134_14) (m.1 1) t nk n)).1 134 0 = nI nk from e00, if_neg (nI_ge (by omega) (by omega)), show F_X2_gainBy (gsub (gput x e_shX_shGB_134_14 (bdW (gsub x e_shX_shGB_134_14) (m.1 1) t nk n)) e_shX_shG_134) (nI c) (0 : Int32) = _ from x_gainBy (a := m.1 1) (t := t) (b := gsub (gput x e_shX_shGB_134_14 (bdW (gsub x e_shX_shGB_134_14) (m.1 1) t nk n)) e_shX_shG_134) (nk := nk) (by omega) e00 (fun c hc => fil_in hc) (fun c hc => fil_in hc) (fun c hc => fil_in hc) (l := 0) (by omega) (by omega), Option.bind_some, one_shl (by omega), show F_X10_gainFrom (gsub (gput x e_shX_shGB_134_14 (bdW (gsub x e_shX_shGB_134_14) (m.1 1) t nk n)) e_shX_shG_134) (1 : Int32) (nI (2 ^ c)) = _ from board_gain hi hn4 (j := n - 1) (l := 1) (s := 2 ^ c) (by omega) (Nat.pow_lt_pow_right (by decide) (by omega)), Option.bind_some, jI_add, ← ev, nI_1]
    have hvb := vlu_b (m.1 1) t (nk := nk) (n := n) (j := n - 1) (by omega) (K := 0) (by omega) 0 c
    by_cases q : vlu (m.1 1) t nk n 0 (n - 1) 0 c = Rj (m.1 1) t nk n n 0
    · rw [if_pos (by rw [q])]
      have hbc : b = c := by
        have h2 : ¬ c < b := fun z => hbfirst c z hv q
        have h3 : ¬ b < c := fun z => hno b z hbval
        omega
      rw [hbe, hbc, if_neg (fun z => by have := (nI_eq (by omega) (by omega)).mp z; omega)]
      exact Sm.fin hm _ _
    · rw [if_neg (by rw [jI_eq (by omega) (by omega)]; exact q)]
      exact ih n1 (c + 1) (by omega) (by omega) (fun e he => by
        by_cases e2 : e = c
        · rw [e2]; exact q
        · exact hno e (by omega))
theorem s_who (h : RR x m) (u v : Int32) : Sm (F_X10_who u v x) (F_X11_who u v m) := by
  obtain ⟨nc, nr, nk, nl, hb, hi⟩ := h.bnk
  have hn := hi.cnt
  unfold F_X10_who F_X11_who f_X10_who_20 f_X11_who_20
  rw [x_hasRank hb hi, m_isRank hi, show F_X10_between v (1 : Int32) (4 : Int32) = some (if btw v 1 4 then 1 else 0) from x_btw v 1 4, show F_X11_isFrom v.toInt64 (1 : Int64) (4 : Int64) = some (if btw v 1 4 then 1 else 0) from m_from v (p := 1) (q := 4) (by omega) (by omega)]
  simp only [F_X10_answer, F_X10_refuse, F_X10_answerOrRefuse, F_X10_grant, F_X10_deny, F_X11_gives, F_X11_refuse, F_X11_orNone, F_X11_is, Option.bind_some, ite01]
  rw [if_and, if_and]
  by_cases hu : gin u nr ∧ btw v 1 4
  · obtain ⟨r, hr, rfl⟩ := gin_of hu.1 (by omega)
    obtain ⟨n, hn1, hn4, rfl⟩ := btw_of hu.2 (by omega) (by omega)
    have hb2 : Bq (gsub (gsub x e_shX_shGB_134_14) e_shGB_shB_4) (m.1 1) (m.2 2) nc nr nk nl := hb
    obtain ⟨S, D, O, G, B, e1, e2⟩ := m_play (n := n) hi hr hn4
    rw [if_pos hu, if_pos hu, if_pos (gin_nI (by omega) (by omega)), nI_clamp (by omega), show x.1 16 r = m.1 1 (17 + 2 * r) from hb.at hr, x_prep hb2 hi, Option.bind_some, show F_X10_gainFrom (gsub (gput x e_shX_shGB_134_14 (bdW (gsub x e_shX_shGB_134_14) (m.1 1) (m.1 1 (17 + 2 * r)) nk n)) e_shX_shG_134) (0 : Int32) (0 : Int32) = _ from board_gain hi hn4 (j := n) (l := 0) (s := 0) (by omega) (Nat.two_pow_pos nk), Option.bind_some, e1, Option.bind_some]
    have q := who_l h hi hn4 hn1 (h.game (m.1 1 (17 + 2 * r)) nk n S D O G B) (e2 hn1) nk FU 0 (by omega) (by have := FU_big; omega) (fun e he => absurd he (by omega))
    have en2 : (Wg m (m.1 1) S D O G B).1 1 2 = nI nk := hi.n2
    dsimp only
    rw [en2, show (Wg m (m.1 1) S D O G B).1 14 0 = B 0 from rfl]
    exact q
  · rw [if_neg hu, if_neg hu]
    exact Sm.fin h _ _
end
