/-! A corner, a rank, a client is read. -/
section
variable {y m : GW} {B : Nat → Nat} {n T i nc nr nk nl f : Nat}
theorem PO.km {m1 : GW} {o1 o2 : Option (Int32 × GW)} (hk : KM m m1) (h : PO m1 B n T i o1 o2) : PO m B n T i o1 o2 := by
  rcases h with ⟨y', m', nc, nr, nk, nl, f, j, h1, h2, h3, h4, h5⟩ | ⟨y', m', h1, h2, h3, h4⟩
  · exact Or.inl ⟨y', m', nc, nr, nk, nl, f, j, h1, h2, h3, h4, hk.tr h5⟩
  · exact Or.inr ⟨y', m', h1, h2, h3, hk.tr h4⟩
theorem m_isFull {j c k : Nat} (hj : j < 4) (hm : m.1 1 (1816 + j) = nI c) (hc : c < 100) (hk : k < 100) : F_X11_isFull m (nI j) (nI k) = some (if c = k then 1 else 0) := by
  unfold F_X11_isFull
  rw [nq_Ladd, if_pos (gin_nI (by show 1816 + j < 2356; omega) (by omega)), nI_clamp (by show 1816 + j < _; omega)]
  show (if m.1 1 (1816 + j) = nI k then some (1 : Int32) else some 0) = _
  rw [hm]
  by_cases e : c = k
  · rw [if_pos (by rw [e]), if_pos e]
  · rw [if_neg (fun z => e ((nI_eq (by omega) (by omega)).mp z)), if_neg e]
theorem y_full {o : Option (Int32 × GW)} (a1 : SY (gsub y e_shBR_shT_1) m B n T i) (a2 : NE (gsub y e_shBR_shT_1) m) (hO : tO B (tp B i)) : PO m B n T i ((F_X8_fail (6 : Int32) (gsub y e_shBR_shT_1)).bind fun q11 => (if q11.1 = 0 ∨ q11.1 = 1 then some (q11.1, (gput y e_shBR_shT_1 q11.2)) else none)) (((F_X11_fails (6 : Int32) m).bind fun q8 => (if q8.1 = 0 ∨ q8.1 = 1 then some (q8.1, q8.2) else none)).bind fun q => f_X11_bankPart_158 q.1 q.2) := by
  rcases y_fail a1 a2 hO.2 (k := 6) (by omega) (fun _ _ => False) with ⟨_, _, _, _, z⟩ | ⟨u', m', h1, h2, h3, h4⟩
  · exact z.elim
  · rw [show F_X8_fail (6 : Int32) (gsub y e_shBR_shT_1) = _ from h1, show F_X11_fails (6 : Int32) m = _ from h2]
    exact Or.inr ⟨gput y e_shBR_shT_1 u', m', rfl, rfl, h3, h4.km⟩
theorem x_addCorner {w : GW} {a : Nat → Int32} {nm : Nat → Int64} (h : Bq w a nm nc nr nk nl) (hc : nc < 7) (v : Int32) : F_X0_addCorner v w = some (gI (gI w 1 nc v) 0 3 (nI (nc + 1))) := by
  unfold F_X0_addCorner
  rw [h.n0, if_neg (nI_geL (by omega) (by omega)), if_pos (gin_nI hc (by omega)), nI_clamp (by omega), nI_1]
theorem x_addRank {w : GW} {a : Nat → Int32} {nm : Nat → Int64} (h : Bq w a nm nc nr nk nl) (hc : nr < 5) (u v : Int32) : F_X0_addRank u v w = some (gI (gI (gI w 2 nr u) 3 nr v) 0 4 (nI (nr + 1))) := by
  unfold F_X0_addRank
  rw [h.n1, if_neg (nI_geL (by omega) (by omega)), if_pos (gin_nI hc (by omega)), nI_clamp (by omega), nI_1]
theorem x_addCli {w : GW} {a : Nat → Int32} {nm : Nat → Int64} (h : Bq w a nm nc nr nk nl) (hc : nl < 8) (u v : Int32) : ∃ r, F_X0_addClient u v w = some (r, gI (gI (gI w 11 nl u) 12 nl v) 0 6 (nI (nl + 1))) := by
  unfold F_X0_addClient
  rw [h.n3, if_pos (nI_ltL (by omega) (by omega)), if_pos (gin_nI hc (by omega)), nI_clamp (by omega), nI_1]
  exact ⟨_, rfl⟩
theorem ra_at {r k : Nat} (h : r = 1816 + k) (v : Int32) : ra (gI m 1 r v) = upd (ra m) k v := by
  subst h
  exact ra_row v
theorem rb_row {r : Nat} (v : Int32) : rb (gI m 1 r v) = rb m := rfl
theorem x_corner (h : BP y m B n T i nc nr nk nl f) (hO : tO B (tp B i)) : PO m B n T i (F_X1_readCorner y) ((F_X11_aCorner m).bind fun q => f_X11_bankPart_158 q.1 q.2) := by
  obtain ⟨⟨a1, a2⟩, ⟨b1, b2, b3⟩, c1, c2, c3, c4⟩ := h
  have hn := b2.cnt
  have e0 : y.1 6 3 = nI nc := b1.n0
  have m0 : m.1 1 1816 = nI nc := b2.n0
  unfold F_X1_readCorner F_X11_aCorner
  rw [e0, show F_X11_isFull m (0 : Int32) (7 : Int32) = some (if nc = 7 then 1 else 0) from m_isFull (j := 0) (k := 7) (by omega) m0 (by omega) (by omega), Option.bind_some]
  by_cases q : nc = 7
  · rw [if_pos q, if_neg one_ne, if_neg (nI_nltL (by omega) (by omega))]
    exact y_full (o := none) a1 a2 hO
  · obtain ⟨u1, m1, g1, g2, g3, g4, g5, g6⟩ := y_adv a1 a2 hO
    rw [if_neg q, if_pos zer_eq, if_pos (nI_ltL (by omega) (by omega)), g1, g2, Option.bind_some, Option.bind_some]
    have s1 : SY (gsub (gput y e_shBR_shT_1 u1) e_shBR_shT_1) m1 B n T (i + 1) := g3
    rcases y_word s1 g4 (k := 3) (by omega) with ⟨u2, m2, h1, h2, p1, p2, p3⟩ | ⟨u2, m2, h1, h2, h3, h4⟩
    · rw [show F_X8_passWord (3 : Int32) _ = _ from h1, show F_X11_wantWord (6 : Int32) m1 = _ from h2, Option.bind_some, Option.bind_some, if_neg one_ne, if_neg one_ne]
      have hm2 : m2.1 1 = m.1 1 := (p3.2.1 1 (by omega)).trans (g6.2.1 1 (by omega))
      rw [show (1826 : Int32) + m2.1 1 1816 = nI (1826 + nc) by rw [hm2, m0, nq_Ladd]]
      have s2 : SY (gsub (gput (gput y e_shBR_shT_1 u1) e_shBR_shT_1 u2) e_shBR_shT_1) m2 B n T (i + 1 + 1) := p1
      rcases y_num s2 p2 (0 : Int32) (9 : Int32) (r := 1826 + nc) (by omega) with ⟨u3, m3, h3, h4, v, v1, v2, v3, r1, r2, r3, r4, r5, _⟩ | ⟨u3, m3, h3, h4, h5, h6⟩
      · rw [h3, h4, Option.bind_some, Option.bind_some, if_neg one_ne, if_neg one_ne]
        have hv : v ≤ 9 := (nI_leI (b := 9) (by omega) (by omega)).mp v3
        have bq : Bq (gsub (gput (gput (gput y e_shBR_shT_1 u1) e_shBR_shT_1 u2) e_shBR_shT_1 u3) e_shBR_shB_6) (ra m) (rb m) nc nr nk nl := b1
        rw [show F_X8_passedNumber (gsub (gput (gput (gput y e_shBR_shT_1 u1) e_shBR_shT_1 u2) e_shBR_shT_1 u3) e_shBR_shT_1) = _ from r3, Option.bind_some, x_addCorner bq (by omega), Option.bind_some, Option.bind_some]
        have era3 : ra m3 = upd (ra m) (10 + nc) (nI v) := by
          rw [ra_fr r4, ra_at (k := 10 + nc) (by omega), ra_fr p3, ra_fr g6]
        have m30 : m3.1 1 1816 = nI nc := by
          show ra m3 0 = nI nc
          rw [era3, pk_un (by omega)]
          exact b2.n0
        rw [m30, nI_1]
        have era : ra (gI m3 1 1816 (nI (nc + 1))) = upd (upd (ra m) (10 + nc) (nI v)) 0 (nI (nc + 1)) := by
          rw [ra_at (k := 0) rfl, era3]
        have erb : rb (gI m3 1 1816 (nI (nc + 1))) = rb m := by
          rw [rb_row, rb_fr r4, rb_row, rb_fr p3, rb_fr g6]
        refine y_tail (nc := nc + 1) (nr := nr) (nk := nk) (nl := nl) (f := f) (j := i + 1 + 1 + 1) ⟨⟨SY.mv r1 (fun _ _ => rfl) rfl, r2⟩, ⟨?_, ?_, ?_⟩, ?_, c2, c3, c4⟩ (by omega) (((((g6.km.tr p3.km).tr (KM.row (r := 1826 + nc) (by omega) _)).tr r4.km)).tr (KM.row (r := 1816) (by omega) _))
        · rw [era, erb]; exact bq.crn hn (by omega) (nI v)
        · rw [era]; exact b2.crn (by omega) hv
        · rw [era]; exact (b3.up (by omega) _).up (by omega) _
        · show m3.1 0 20 = _
          rw [r4.2.2 20 (by omega)]
          show m2.1 0 20 = _
          rw [p3.2.2 20 (by omega), g6.2.2 20 (by omega)]
          exact c1
      · rw [h3, h4]
        exact Or.inr ⟨_, m3, rfl, rfl, h5, (g6.km.tr p3.km).tr h6.km⟩
    · rw [show F_X8_passWord (3 : Int32) _ = _ from h1, show F_X11_wantWord (6 : Int32) m1 = _ from h2]
      exact Or.inr ⟨_, m2, rfl, rfl, h3, g6.km.tr h4.km⟩
end
section
variable {y m : GW} {B : Nat → Nat} {n T i nc nr nk nl f : Nat}
def sLn (a : Nat → Int32) (nr : Nat) : Int32 := if nr = 0 then 0 else a (17 + 2 * (nr - 1)) + 1
theorem x_least {w : GW} {a : Nat → Int32} {nm : Nat → Int64} (h : Bq w a nm nc nr nk nl) (hi : Bi a nc nr nk nl) : F_X0_leastNextAt w = some (sLn a nr) := by
  have hn := hi.cnt
  unfold F_X0_leastNextAt sLn
  rw [x_hasRank h hi, h.n1, Option.bind_some]
  by_cases q : nr = 0
  · rw [q, show nI 0 - (1 : Int32) = -1 by decide, if_neg gin_neg, if_pos zer_eq, if_pos rfl]
  · rw [show nI nr - (1 : Int32) = nI (nr - 1) from nI_sub (b := 1) (by omega), if_pos (gin_nI (by omega) (by omega)), if_neg one_ne, if_pos (gin_nI (by omega) (by omega)), nI_clamp (by omega), if_neg q, h.at (by omega)]
theorem m_aRank (hi : Bi (ra m) nc nr nk nl) (hr : nr < 5) : F_X11_aRank m = f_X11_aRank_57 (nI (1816 + (17 + 2 * nr))) (sLn (ra m) nr) m := by
  have hn := hi.cnt
  have m0 : m.1 1 1817 = nI nr := hi.n1
  unfold F_X11_aRank sLn
  rw [show F_X11_isFull m (1 : Int32) (5 : Int32) = some (if nr = 5 then 1 else 0) from m_isFull (j := 1) (k := 5) (by omega) m0 (by omega) (by omega), Option.bind_some, if_neg (show ¬ nr = 5 by omega), if_pos zer_eq, m0, m_rankRow, Option.bind_some, nq_Ladd]
  by_cases q : nr = 0
  · subst q
    rw [if_pos rfl, if_pos (show nI 0 = 0 from rfl)]
  · rw [if_neg (nI_nz (by omega) q), if_neg q, show nI (OfNat.ofNat 1816 + (17 + 2 * nr)) - (2 : Int32) = nI (1816 + (17 + 2 * (nr - 1))) by rw [show (nI (OfNat.ofNat 1816 + (17 + 2 * nr)) - (2 : Int32)) = nI (1816 + (17 + 2 * nr) - 2) from nI_sub (b := 2) (by show 2 ≤ 1816 + (17 + 2 * nr); omega), show 1816 + (17 + 2 * nr) - 2 = 1816 + (17 + 2 * (nr - 1)) by omega], if_pos (gin_nI (by omega) (by omega)), nI_clamp (by omega)]
    rfl
theorem x_rank (h : BP y m B n T i nc nr nk nl f) (hO : tO B (tp B i)) : PO m B n T i (F_X1_readRank y) ((F_X11_aRank m).bind fun q => f_X11_bankPart_158 q.1 q.2) := by
  obtain ⟨⟨a1, a2⟩, ⟨b1, b2, b3⟩, c1, c2, c3, c4⟩ := h
  have hn := b2.cnt
  have e0 : y.1 6 4 = nI nr := b1.n1
  have m0 : m.1 1 1817 = nI nr := b2.n1
  by_cases q : nr = 5
  · unfold F_X1_readRank F_X11_aRank
    rw [e0, show F_X11_isFull m (1 : Int32) (5 : Int32) = some (if nr = 5 then 1 else 0) from m_isFull (j := 1) (k := 5) (by omega) m0 (by omega) (by omega), Option.bind_some]
    rw [if_pos q, if_neg one_ne, if_neg (nI_nltL (by omega) (by omega))]
    exact y_full (o := none) a1 a2 hO
  · rw [m_aRank b2 (by omega)]
    unfold F_X1_readRank f_X11_aRank_57
    obtain ⟨u1, m1, g1, g2, g3, g4, g5, g6⟩ := y_adv a1 a2 hO
    rw [e0, if_pos (nI_ltL (by omega) (by omega)), g1, g2, Option.bind_some, Option.bind_some]
    have s1 : SY (gsub (gput y e_shBR_shT_1 u1) e_shBR_shT_1) m1 B n T (i + 1) := g3
    rcases y_word s1 g4 (k := 5) (by omega) with ⟨u2, m2, h1, h2, p1, p2, p3⟩ | ⟨u2, m2, h1, h2, h3, h4⟩
    · rw [show F_X8_passWord (5 : Int32) _ = _ from h1, show F_X11_wantWord (7 : Int32) m1 = _ from h2, Option.bind_some, Option.bind_some, if_neg one_ne, if_neg one_ne]
      have bq2 : Bq (gsub (gput (gput y e_shBR_shT_1 u1) e_shBR_shT_1 u2) e_shBR_shB_6) (ra m) (rb m) nc nr nk nl := b1
      rw [x_least bq2 b2, Option.bind_some]
      have s2 : SY (gsub (gput (gput y e_shBR_shT_1 u1) e_shBR_shT_1 u2) e_shBR_shT_1) m2 B n T (i + 1 + 1) := p1
      rcases y_num s2 p2 (sLn (ra m) nr) (99 : Int32) (r := 1816 + (17 + 2 * nr)) (by omega) with ⟨u3, m3, h3, h4, v, v1, v2, v3, r1, r2, r3, r4, r5, _⟩ | ⟨u3, m3, h3, h4, h5, h6⟩
      · rw [h3, h4, Option.bind_some, Option.bind_some, if_neg one_ne, if_neg one_ne]
        have hv : v ≤ 99 := (nI_leI (b := 99) (by omega) (by omega)).mp v3
        rw [show F_X8_passedNumber (gsub (gput (gput (gput y e_shBR_shT_1 u1) e_shBR_shT_1 u2) e_shBR_shT_1 u3) e_shBR_shT_1) = _ from r3, Option.bind_some]
        have s3 : SY (gsub (gput (gput (gput y e_shBR_shT_1 u1) e_shBR_shT_1 u2) e_shBR_shT_1 u3) e_shBR_shT_1) m3 B n T (i + 1 + 1 + 1) := r1
        have k3 : KM m m3 := ((g6.km.tr p3.km).tr (KM.row (r := 1816 + (17 + 2 * nr)) (by omega) _)).tr r4.km
        have era3 : ra m3 = upd (ra m) (17 + 2 * nr) (nI v) := by
          rw [ra_fr r4, ra_at (k := 17 + 2 * nr) rfl, ra_fr p3, ra_fr g6]
        have erb3 : rb m3 = rb m := by
          rw [rb_fr r4, rb_row, rb_fr p3, rb_fr g6]
        have f3 : m3.1 0 20 = nI f := by
          rw [r4.2.2 20 (by omega)]
          show m2.1 0 20 = _
          rw [p3.2.2 20 (by omega), g6.2.2 20 (by omega)]
          exact c1
        rcases y_word s3 r2 (k := 6) (by omega) with ⟨u4, m4, h5, h6, t1, t2, t3⟩ | ⟨u4, m4, h5, h6, h7, h8⟩
        · rw [show F_X8_passWord (6 : Int32) _ = _ from h5, show F_X11_wantWord (8 : Int32) m3 = _ from h6, Option.bind_some, Option.bind_some, if_neg one_ne, if_neg one_ne, nI_1]
          have s4 : SY (gsub (gput (gput (gput (gput y e_shBR_shT_1 u1) e_shBR_shT_1 u2) e_shBR_shT_1 u3) e_shBR_shT_1 u4) e_shBR_shT_1) m4 B n T (i + 1 + 1 + 1 + 1) := t1
          rcases y_num s4 t2 (0 : Int32) (50 : Int32) (r := 1816 + (17 + 2 * nr) + 1) (by omega) with ⟨u5, m5, h7, h8, z, z1, z2, z3, q1, q2, q3, q4, q5, _⟩ | ⟨u5, m5, h7, h8, h9, h10⟩
          · rw [h7, h8, Option.bind_some, Option.bind_some, if_neg one_ne, if_neg one_ne]
            have hz : z ≤ 50 := (nI_leI (b := 50) (by omega) (by omega)).mp z3
            have bq : Bq (gsub (gput (gput (gput (gput (gput y e_shBR_shT_1 u1) e_shBR_shT_1 u2) e_shBR_shT_1 u3) e_shBR_shT_1 u4) e_shBR_shT_1 u5) e_shBR_shB_6) (ra m) (rb m) nc nr nk nl := b1
            rw [show F_X8_passedNumber (gsub (gput (gput (gput (gput (gput y e_shBR_shT_1 u1) e_shBR_shT_1 u2) e_shBR_shT_1 u3) e_shBR_shT_1 u4) e_shBR_shT_1 u5) e_shBR_shT_1) = _ from q3, Option.bind_some, x_addRank bq (by omega), Option.bind_some, Option.bind_some]
            have era5 : ra m5 = upd (upd (ra m) (17 + 2 * nr) (nI v)) (17 + 2 * nr + 1) (nI z) := by
              rw [ra_fr q4, ra_at (k := 17 + 2 * nr + 1) (by omega), ra_fr t3, era3]
            have m50 : m5.1 1 1817 = nI nr := by
              show ra m5 1 = nI nr
              rw [era5, pk_un (by omega), pk_un (by omega)]
              exact b2.n1
            rw [m50, nI_1]
            have era : ra (gI m5 1 1817 (nI (nr + 1))) = upd (upd (upd (ra m) (17 + 2 * nr) (nI v)) (17 + 2 * nr + 1) (nI z)) 1 (nI (nr + 1)) := by
              rw [ra_at (k := 1) rfl, era5]
            have erb : rb (gI m5 1 1817 (nI (nr + 1))) = rb m := by
              rw [rb_row, rb_fr q4, rb_row, rb_fr t3, erb3]
            refine y_tail (nc := nc) (nr := nr + 1) (nk := nk) (nl := nl) (f := f) (j := i + 1 + 1 + 1 + 1 + 1) ⟨⟨SY.mv q1 (fun _ _ => rfl) rfl, q2⟩, ⟨?_, ?_, ?_⟩, ?_, c2, c3, c4⟩ (by omega) ((((k3.tr t3.km).tr (KM.row (r := 1816 + (17 + 2 * nr) + 1) (by omega) _)).tr q4.km).tr (KM.row (r := 1817) (by omega) _))
            · rw [era, erb]; exact bq.rnk hn (by omega) (nI v) (nI z)
            · rw [era]; exact b2.rnk (by omega) hv hz
            · rw [era]; exact ((b3.up (by omega) _).up (by omega) _).up (by omega) _
            · show m5.1 0 20 = _
              rw [q4.2.2 20 (by omega)]
              show m4.1 0 20 = _
              rw [t3.2.2 20 (by omega), f3]
          · rw [h7, h8]
            exact Or.inr ⟨_, m5, rfl, rfl, h9, (k3.tr t3.km).tr h10.km⟩
        · rw [show F_X8_passWord (6 : Int32) _ = _ from h5, show F_X11_wantWord (8 : Int32) m3 = _ from h6]
          exact Or.inr ⟨_, m4, rfl, rfl, h7, k3.tr h8.km⟩
      · rw [h3, h4]
        exact Or.inr ⟨_, m3, rfl, rfl, h5, (g6.km.tr p3.km).tr h6.km⟩
    · rw [show F_X8_passWord (5 : Int32) _ = _ from h1, show F_X11_wantWord (7 : Int32) m1 = _ from h2]
      exact Or.inr ⟨_, m2, rfl, rfl, h3, g6.km.tr h4.km⟩
theorem x_client (h : BP y m B n T i nc nr nk nl f) (hO : tO B (tp B i)) : PO m B n T i (F_X1_readClient y) ((F_X11_aClient m).bind fun q => f_X11_bankPart_158 q.1 q.2) := by
  obtain ⟨⟨a1, a2⟩, ⟨b1, b2, b3⟩, c1, c2, c3, c4⟩ := h
  have hn := b2.cnt
  have e0 : y.1 6 6 = nI nl := b1.n3
  have m0 : m.1 1 1819 = nI nl := b2.n3
  unfold F_X1_readClient F_X11_aClient
  rw [e0, show F_X11_isFull m (3 : Int32) (8 : Int32) = some (if nl = 8 then 1 else 0) from m_isFull (j := 3) (k := 8) (by omega) m0 (by omega) (by omega), Option.bind_some]
  by_cases q : nl = 8
  · rw [if_pos q, if_neg one_ne, if_neg (nI_nltL (by omega) (by omega))]
    exact y_full (o := none) a1 a2 hO
  · rw [if_neg q, if_pos zer_eq, m0, m_clientRow, Option.bind_some, nq_Ladd]
    obtain ⟨u1, m1, g1, g2, g3, g4, g5, g6⟩ := y_adv a1 a2 hO
    rw [if_pos (nI_ltL (by omega) (by omega)), g1, g2, Option.bind_some, Option.bind_some]
    have s1 : SY (gsub (gput y e_shBR_shT_1 u1) e_shBR_shT_1) m1 B n T (i + 1) := g3
    rcases y_word s1 g4 (k := 13) (by omega) with ⟨u2, m2, h1, h2, p1, p2, p3⟩ | ⟨u2, m2, h1, h2, h3, h4⟩
    · rw [show F_X8_passWord (13 : Int32) _ = _ from h1, show F_X11_wantWord (13 : Int32) m1 = _ from h2, Option.bind_some, Option.bind_some, if_neg one_ne, if_neg one_ne]
      have s2 : SY (gsub (gput (gput y e_shBR_shT_1 u1) e_shBR_shT_1 u2) e_shBR_shT_1) m2 B n T (i + 1 + 1) := p1
      rcases y_num s2 p2 (1 : Int32) (99 : Int32) (r := 1816 + (69 + 2 * nl)) (by omega) with ⟨u3, m3, h3, h4, v, v1, v2, v3, r1, r2, r3, r4, r5, _⟩ | ⟨u3, m3, h3, h4, h5, h6⟩
      · rw [h3, show F_X11_number (nI (OfNat.ofNat 1816 + (69 + 2 * nl))) (1 : Int32) (99 : Int32) m2 = _ from h4, Option.bind_some, Option.bind_some, if_neg one_ne, if_neg one_ne]
        have hv : v ≤ 99 := (nI_leI (b := 99) (by omega) (by omega)).mp v3
        have hv0 : 1 ≤ v := (nI_leI (a := 1) (by omega) (by omega)).mp v2
        rw [show F_X8_passedNumber (gsub (gput (gput (gput y e_shBR_shT_1 u1) e_shBR_shT_1 u2) e_shBR_shT_1 u3) e_shBR_shT_1) = _ from r3, Option.bind_some]
        have s3 : SY (gsub (gput (gput (gput y e_shBR_shT_1 u1) e_shBR_shT_1 u2) e_shBR_shT_1 u3) e_shBR_shT_1) m3 B n T (i + 1 + 1 + 1) := r1
        have k3 : KM m m3 := ((g6.km.tr p3.km).tr (KM.row (r := 1816 + (69 + 2 * nl)) (by omega) _)).tr r4.km
        have era3 : ra m3 = upd (ra m) (69 + 2 * nl) (nI v) := by
          rw [ra_fr r4, ra_at (k := 69 + 2 * nl) rfl, ra_fr p3, ra_fr g6]
        have erb3 : rb m3 = rb m := by
          rw [rb_fr r4, rb_row, rb_fr p3, rb_fr g6]
        have f3 : m3.1 0 20 = nI f := by
          rw [r4.2.2 20 (by omega)]
          show m2.1 0 20 = _
          rw [p3.2.2 20 (by omega), g6.2.2 20 (by omega)]
          exact c1
        rcases y_word s3 r2 (k := 14) (by omega) with ⟨u4, m4, h5, h6, t1, t2, t3⟩ | ⟨u4, m4, h5, h6, h7, h8⟩
        · rw [show F_X8_passWord (14 : Int32) _ = _ from h5, show F_X11_wantWord (14 : Int32) m3 = _ from h6, Option.bind_some, Option.bind_some, if_neg one_ne, if_neg one_ne, nI_1]
          have s4 : SY (gsub (gput (gput (gput (gput y e_shBR_shT_1 u1) e_shBR_shT_1 u2) e_shBR_shT_1 u3) e_shBR_shT_1 u4) e_shBR_shT_1) m4 B n T (i + 1 + 1 + 1 + 1) := t1
          rcases y_num s4 t2 (0 : Int32) (999 : Int32) (r := 1816 + (69 + 2 * nl) + 1) (by omega) with ⟨u5, m5, h7, h8, z, z1, z2, z3, q1, q2, q3, q4, q5, _⟩ | ⟨u5, m5, h7, h8, h9, h10⟩
          · rw [h7, show F_X11_number (nI (OfNat.ofNat 1816 + (69 + 2 * nl) + 1)) (0 : Int32) (999 : Int32) m4 = _ from h8, Option.bind_some, Option.bind_some, if_neg one_ne, if_neg one_ne]
            have hz : z ≤ 999 := (nI_leI (b := 999) (by omega) (by omega)).mp z3
            have bq : Bq (gsub (gput (gput (gput (gput (gput y e_shBR_shT_1 u1) e_shBR_shT_1 u2) e_shBR_shT_1 u3) e_shBR_shT_1 u4) e_shBR_shT_1 u5) e_shBR_shB_6) (ra m) (rb m) nc nr nk nl := b1
            obtain ⟨rr, hrr⟩ := x_addCli bq (by omega) (nI v) (nI z)
            rw [show F_X8_passedNumber (gsub (gput (gput (gput (gput (gput y e_shBR_shT_1 u1) e_shBR_shT_1 u2) e_shBR_shT_1 u3) e_shBR_shT_1 u4) e_shBR_shT_1 u5) e_shBR_shT_1) = _ from q3, Option.bind_some, hrr, Option.bind_some, Option.bind_some]
            have era5 : ra m5 = upd (upd (ra m) (69 + 2 * nl) (nI v)) (69 + 2 * nl + 1) (nI z) := by
              rw [ra_fr q4, ra_at (k := 69 + 2 * nl + 1) (by omega), ra_fr t3, era3]
            have m50 : m5.1 1 1819 = nI nl := by
              show ra m5 3 = nI nl
              rw [era5, pk_un (by omega), pk_un (by omega)]
              exact b2.n3
            rw [m50, nI_1]
            have era : ra (gI m5 1 1819 (nI (nl + 1))) = upd (upd (upd (ra m) (69 + 2 * nl) (nI v)) (69 + 2 * nl + 1) (nI z)) 3 (nI (nl + 1)) := by
              rw [ra_at (k := 3) rfl, era5]
            have erb : rb (gI m5 1 1819 (nI (nl + 1))) = rb m := by
              rw [rb_row, rb_fr q4, rb_row, rb_fr t3, erb3]
            refine y_tail (nc := nc) (nr := nr) (nk := nk) (nl := nl + 1) (f := f) (j := i + 1 + 1 + 1 + 1 + 1) ⟨⟨SY.mv q1 (fun _ _ => rfl) rfl, q2⟩, ⟨?_, ?_, ?_⟩, ?_, c2, c3, c4⟩ (by omega) ((((k3.tr t3.km).tr (KM.row (r := 1816 + (69 + 2 * nl) + 1) (by omega) _)).tr q4.km).tr (KM.row (r := 1819) (by omega) _))
            · rw [era, erb]; exact bq.cli hn (by omega) (nI v) (nI z)
            · rw [era]; exact b2.cli (by omega) ⟨hv0, hv⟩ hz
            · rw [era]; exact ((b3.up (by omega) _).up (by omega) _).up (by omega) _
            · show m5.1 0 20 = _
              rw [q4.2.2 20 (by omega)]
              show m4.1 0 20 = _
              rw [t3.2.2 20 (by omega), f3]
          · rw [h7, show F_X11_number (nI (OfNat.ofNat 1816 + (69 + 2 * nl) + 1)) (0 : Int32) (999 : Int32) m4 = _ from h8]
            exact Or.inr ⟨_, m5, rfl, rfl, h9, (k3.tr t3.km).tr h10.km⟩
        · rw [show F_X8_passWord (14 : Int32) _ = _ from h5, show F_X11_wantWord (14 : Int32) m3 = _ from h6]
          exact Or.inr ⟨_, m4, rfl, rfl, h7, k3.tr h8.km⟩
      · rw [h3, show F_X11_number (nI (OfNat.ofNat 1816 + (69 + 2 * nl))) (1 : Int32) (99 : Int32) m2 = _ from h4]
        exact Or.inr ⟨_, m3, rfl, rfl, h5, (g6.km.tr p3.km).tr h6.km⟩
    · rw [show F_X8_passWord (13 : Int32) _ = _ from h1, show F_X11_wantWord (13 : Int32) m1 = _ from h2]
      exact Or.inr ⟨_, m2, rfl, rfl, h3, g6.km.tr h4.km⟩
end
