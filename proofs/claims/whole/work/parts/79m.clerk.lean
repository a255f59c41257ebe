/-! A clerk is read. -/
section
variable {y m : GW} {B : Nat → Nat} {n T i nc nr nk nl f : Nat}
theorem gixB : ∀ i : Fin 13, gix e_shBR_shB_6 i.val = 6 + i.val := by decide
theorem gsB_gI {w : GW} {c k : Nat} {v : Int32} {i q : Nat} (hi : i < 13) : (gsub (gI w (6 + c) k v) e_shBR_shB_6).1 i q = (gI (gsub w e_shBR_shB_6) c k v).1 i q := by
  show (if gix e_shBR_shB_6 i = 6 + c ∧ q = k then v else w.1 (gix e_shBR_shB_6 i) q) = (if i = c ∧ q = k then v else w.1 (gix e_shBR_shB_6 i) q)
  rw [show gix e_shBR_shB_6 i = 6 + i from gixB ⟨i, hi⟩]
  by_cases e : i = c ∧ q = k
  · rw [if_pos e, if_pos ⟨by omega, e.2⟩]
  · rw [if_neg e, if_neg (fun z => e ⟨by omega, z.2⟩)]
theorem y_tail2 {y1 m1 : GW} {j : Nat} (h : BP y1 m1 B n T j nc nr nk nl f) (hj : i ≤ j) (hk : KM m m1) : PO m B n T i ((F_X8_passSemicolon (gsub y1 e_shBR_shT_1)).bind fun q6 => (if q6.1 = 0 then (some ((0 : Int32), gput y1 e_shBR_shT_1 q6.2)) else (some ((1 : Int32), gput y1 e_shBR_shT_1 q6.2)))) (f_X11_bankPart_158 (1 : Int32) m1) := by
  have h2 := y_tail h hj hk
  have h3 := y_semi h.1.1 h.1.2
  rcases h3 with ⟨u', m', h4, _⟩ | ⟨u', m', h4, _⟩
  · rw [h4] at h2 ⊢
    exact h2
  · rw [h4] at h2 ⊢
    exact h2
def CT (y m : GW) (B : Nat → Nat) (n T i nc nr nk nl f : Nat) (A : Nat → Int32) (j : Nat) : Prop :=
  (SY (gsub y e_shBR_shT_1) m B n T i ∧ NE (gsub y e_shBR_shT_1) m) ∧ (Bq (gsub y e_shBR_shB_6) A (rb m) nc nr (nk + 1) nl ∧ Bi A nc nr (nk + 1) nl ∧ RZ (ra m) nk) ∧
  (m.1 0 20 = nI f ∧ f < 64 ∧ y.1 0 2 = (if f.testBit 0 = true then 1 else 0) ∧ y.1 0 3 = (if f.testBit 1 = true then 1 else 0)) ∧
  (∀ k, k < 86 → k ≠ 2 → (k < 27 + 7 * nk + j ∨ 27 + 7 * nk + 4 ≤ k) → ra m k = A k) ∧ (∀ k, j ≤ k → k < 4 → A (27 + 7 * nk + k) = 0) ∧ ra m 2 = nI nk
theorem x_trait {A : Nat → Int32} {j hi kk : Nat} (hj : j = 1 ∨ j = 2 ∨ j = 3) (hkk : kk < 28) (hnk : nk < 6) (h : CT y m B n T i nc nr nk nl f A j)
    (hs1 : ∀ (w : GW) (a : Nat → Int32) (nm : Nat → Int64) (v : Int32), Bq w a nm nc nr (nk + 1) nl → Bq (gI w (5 + j) nk v) (upd a (27 + 7 * nk + j) v) nm nc nr (nk + 1) nl)
    (hs2 : ∀ (a : Nat → Int32) (v : Nat), nI v ≤ nI hi → v < 10000 → Bi a nc nr (nk + 1) nl → Bi (upd a (27 + 7 * nk + j) (nI v)) nc nr (nk + 1) nl) :
    (∃ y' m' A' i', F_X1_readTrait (11 + j) (nI kk) (nI hi) (nI nk) y = some (1, y') ∧ F_X11_perhaps (kmap (nI kk)) (nI (1816 + (27 + 7 * nk) + j)) (0 : Int32) (nI hi) (0 : Int32) m = some (1, m') ∧ CT y' m' B n T i' nc nr nk nl f A' (j + 1) ∧ i ≤ i' ∧ KM m m') ∨
    (∃ y' m', F_X1_readTrait (11 + j) (nI kk) (nI hi) (nI nk) y = some (0, y') ∧ F_X11_perhaps (kmap (nI kk)) (nI (1816 + (27 + 7 * nk) + j)) (0 : Int32) (nI hi) (0 : Int32) m = some (0, m') ∧ FE (gsub y' e_shBR_shT_1) m' ∧ KM m m') := by
  obtain ⟨⟨a1, a2⟩, ⟨b1, b2, b3⟩, ⟨c1, c2, c3, c4⟩, d1, d2, d3⟩ := h
  have hn := b2.cnt
  have hw := y_inw a1
  have e : (kmap (y.1 1 2) = kmap (nI kk)) = (y.1 1 2 = nI kk) := kmap_eq (by rcases hw.2 with q | ⟨j, q1, q2, _⟩; exact Or.inl q; exact Or.inr ⟨j, q1, q2⟩) hkk
  unfold F_X1_readTrait F_X11_perhaps F_X11_isThere
  rw [show F_X11_inWords m = some (kmap (y.1 1 2)) from hw.1, Option.bind_some]
  by_cases q : y.1 1 2 = nI kk
  · rw [if_pos q, if_pos (e ▸ q)]
    have hO : tO B (tp B i) := by
      rcases hw.2 with z | ⟨j, z1, z2, z3, z4⟩
      · exact absurd (q.symm.trans z) (nI_nm (by omega))
      · exact z3
    obtain ⟨u1, m1, g1, g2, g3, g4, g5, g6⟩ := y_adv a1 a2 hO
    rw [g1, g2, Option.bind_some, Option.bind_some, Option.bind_some, if_neg one_ne]
    have s1 : SY (gsub (gput y e_shBR_shT_1 u1) e_shBR_shT_1) m1 B n T (i + 1) := g3
    rcases y_num s1 g4 (0 : Int32) (nI hi) (r := 1816 + (27 + 7 * nk) + j) (by omega) with ⟨u2, m2, h1, h2, v, v1, v2, v3, p1, p2, p3, p4, p5, _⟩ | ⟨u2, m2, h1, h2, h3, h4⟩
    · rw [h1, h2, Option.bind_some, Option.bind_some, if_neg one_ne, if_neg (nI_pos (by omega)), if_neg (nI_geL (by omega) (by omega)), show F_X8_passedNumber (gsub (gput (gput y e_shBR_shT_1 u1) e_shBR_shT_1 u2) e_shBR_shT_1) = _ from p3, Option.bind_some, if_pos (gin_nI (by omega) (by omega)), nI_clamp (by omega)]
      have era : ra m2 = upd (ra m) (27 + 7 * nk + j) (nI v) := by
        rw [ra_fr p4, ra_at (k := 27 + 7 * nk + j) (by omega), ra_fr g6]
      have erb : rb m2 = rb m := by
        rw [rb_fr p4, rb_row, rb_fr g6]
      have bq : Bq (gsub (gput (gput y e_shBR_shT_1 u1) e_shBR_shT_1 u2) e_shBR_shB_6) A (rb m) nc nr (nk + 1) nl := b1
      refine Or.inl ⟨_, m2, upd A (27 + 7 * nk + j) (nI v), i + 1 + 1, rfl, rfl, ⟨⟨?_, ?_⟩, ⟨?_, hs2 A v v3 v1 b2, ?_⟩, ⟨?_, c2, ?_, ?_⟩, fun k h5 h6 h7 => ?_, fun k h5 h6 => ?_, ?_⟩, by omega, (g6.km.tr (KM.row (r := 1816 + (27 + 7 * nk) + j) (by omega) _)).tr p4.km⟩
      · rcases hj with rfl | rfl | rfl
        · exact p1
        · exact p1
        · exact p1
      · rcases hj with rfl | rfl | rfl
        · exact p2
        · exact p2
        · exact p2
      · rw [erb, show 11 + j = 6 + (5 + j) by omega]
        exact (hs1 _ A (rb m) (nI v) bq).congr b2.cnt (fun i k h5 => gsB_gI h5) (fun _ => rfl) (fun _ _ => rfl)
      · rw [era]; exact b3.up (by omega) _
      · rw [p4.2.2 20 (by omega)]
        show m1.1 0 20 = _
        rw [g6.2.2 20 (by omega)]
        exact c1
      · rcases hj with rfl | rfl | rfl
        · exact c3
        · exact c3
        · exact c3
      · rcases hj with rfl | rfl | rfl
        · exact c4
        · exact c4
        · exact c4
      · rw [era]
        by_cases z : k = 27 + 7 * nk + j
        · subst z; rw [pk_us, pk_us]
        · rw [pk_un z, pk_un z]; exact d1 k h5 h6 (by omega)
      · rw [pk_un (by omega)]; exact d2 k (by omega) h6
      · rw [era, pk_un (by omega)]; exact d3
    · rw [h1, h2]
      exact Or.inr ⟨_, m2, rfl, rfl, h3, g6.km.tr h4.km⟩
  · rw [if_neg q, if_neg (e ▸ q), Option.bind_some, if_pos zer_eq, if_pos (gin_nI (by omega) (by omega)), nI_clamp (by omega)]
    have era : ra (gI m 1 (1816 + (27 + 7 * nk) + j) 0) = upd (ra m) (27 + 7 * nk + j) 0 := ra_at (by omega) _
    refine Or.inl ⟨y, _, A, i, rfl, rfl, ⟨⟨SY.mv a1 (fun _ _ => rfl) rfl, a2⟩, ⟨b1, b2, ?_⟩, ⟨c1, c2, c3, c4⟩, fun k h5 h6 h7 => ?_, fun k h5 h6 => d2 k (by omega) h6, ?_⟩, Nat.le_refl i, KM.row (r := 1816 + (27 + 7 * nk) + j) (by omega) _⟩
    · rw [era]; exact b3.up (by omega) _
    · rw [era]
      by_cases z : k = 27 + 7 * nk + j
      · subst z; rw [pk_us]; exact (d2 j (Nat.le_refl j) (by omega)).symm
      · rw [pk_un z]; exact d1 k h5 h6 (by omega)
    · rw [era, pk_un (by omega)]; exact d3
end
section
variable {y m : GW} {B : Nat → Nat} {n T i nc nr nk nl f : Nat}
theorem rb_name {y : Int64} : rb (gL m 2 (24 + nk) y) = vp_updL (rb m) nk y := by
  funext q
  show (if 2 = 2 ∧ 24 + q = 24 + nk then y else m.2 2 (24 + q)) = if q = nk then y else m.2 2 (24 + q)
  by_cases e : q = nk
  · rw [if_pos e, if_pos ⟨rfl, by omega⟩]
  · rw [if_neg e, if_neg (by omega)]
theorem KM.name {k : Nat} (hk : 24 ≤ k ∧ k < 30) (v : Int64) : KM m (gL m 2 k v) := ⟨fun _ _ => rfl, fun _ _ _ _ _ => rfl, fun _ _ => rfl, fun i hi => funext fun q => if_neg (fun z => hi z.1), fun q hq => if_neg (by omega)⟩
/-- the last steps of a clerk: what may be told of him -/
theorem x_traits {A : Nat → Int32} (hnk : nk < 6) (h : CT y m B n T i nc nr nk nl f A 1) : PO m B n T i
    ((F_X1_readTrait 12 (9 : Int32) (999 : Int32) (nI nk) y).bind fun q16 => (if q16.1 = 0 then (some ((0 : Int32), q16.2)) else ((F_X1_readTrait 13 (10 : Int32) (99 : Int32) (nI nk) q16.2).bind fun q18 => (if q18.1 = 0 then (some ((0 : Int32), q18.2)) else ((F_X1_readTrait 14 (11 : Int32) (99 : Int32) (nI nk) q18.2).bind fun q20 => (if q20.1 = 0 then (some ((0 : Int32), q20.2)) else ((F_X8_passSemicolon (gsub q20.2 e_shBR_shT_1)).bind fun q22 => (if q22.1 = 0 then (some ((0 : Int32), (gput q20.2 e_shBR_shT_1 q22.2))) else (some ((1 : Int32), (gput q20.2 e_shBR_shT_1 q22.2)))))))))))
    (((F_X11_perhaps (10 : Int32) (nI (1816 + (27 + 7 * nk) + 1)) (0 : Int32) (999 : Int32) (0 : Int32) m).bind fun q28 => (if q28.1 = 0 then (some ((0 : Int32), q28.2)) else ((F_X11_perhaps (11 : Int32) (nI (1816 + (27 + 7 * nk) + 2)) (0 : Int32) (99 : Int32) (0 : Int32) q28.2).bind fun q30 => (if q30.1 = 0 then (some ((0 : Int32), q30.2)) else ((F_X11_perhaps (12 : Int32) (nI (1816 + (27 + 7 * nk) + 3)) (0 : Int32) (99 : Int32) (0 : Int32) q30.2).bind fun q32 => (if q32.1 = 0 then (some ((0 : Int32), q32.2)) else (some ((1 : Int32), (gI q32.2 1 1818 ((q32.2.1 1 1818) + (1 : Int32))))))))))).bind fun q => f_X11_bankPart_158 q.1 q.2) := by
  have hn := h.2.1.2.1.cnt
  rcases x_trait (j := 1) (hi := 999) (kk := 9) (Or.inl rfl) (by omega) hnk h (fun w a nm v hb => hb.set_served hn (by omega) v) (fun a v _ _ hb => hb.set_served (by omega)) with ⟨y1, m1, A1, i1, g1, g2, g3, g4, g5⟩ | ⟨y1, m1, g1, g2, g3, g4⟩
  · rw [show F_X1_readTrait 12 (9 : Int32) (999 : Int32) (nI nk) y = _ from g1, show F_X11_perhaps (10 : Int32) (nI (1816 + (27 + 7 * nk) + 1)) (0 : Int32) (999 : Int32) (0 : Int32) m = _ from g2, Option.bind_some, Option.bind_some, if_neg one_ne, if_neg one_ne]
    rcases x_trait (j := 2) (hi := 99) (kk := 10) (Or.inr (Or.inl rfl)) (by omega) hnk g3 (fun w a nm v hb => hb.set_grey hn (by omega) v) (fun a v h1 h2 hb => hb.set_grey (by omega) ⟨v, (nI_leI (by omega) (by omega)).mp h1, rfl⟩) with ⟨y2, m2, A2, i2, h1, h2, h3, h4, h5⟩ | ⟨y2, m2, h1, h2, h3, h4⟩
    · rw [show F_X1_readTrait 13 (10 : Int32) (99 : Int32) (nI nk) y1 = _ from h1, show F_X11_perhaps (11 : Int32) (nI (1816 + (27 + 7 * nk) + 2)) (0 : Int32) (99 : Int32) (0 : Int32) m1 = _ from h2, Option.bind_some, Option.bind_some, if_neg one_ne, if_neg one_ne]
      rcases x_trait (j := 3) (hi := 99) (kk := 11) (Or.inr (Or.inr rfl)) (by omega) hnk h3 (fun w a nm v hb => hb.set_sham hn (by omega) v) (fun a v h1 h2 hb => hb.set_sham (by omega) ⟨v, (nI_leI (by omega) (by omega)).mp h1, rfl⟩) with ⟨y3, m3, A3, i3, p1, p2, p3, p4, p5⟩ | ⟨y3, m3, p1, p2, p3, p4⟩
      · rw [show F_X1_readTrait 14 (11 : Int32) (99 : Int32) (nI nk) y2 = _ from p1, show F_X11_perhaps (12 : Int32) (nI (1816 + (27 + 7 * nk) + 3)) (0 : Int32) (99 : Int32) (0 : Int32) m2 = _ from p2, Option.bind_some, Option.bind_some, if_neg one_ne, if_neg one_ne, Option.bind_some]
        obtain ⟨⟨a1, a2⟩, ⟨b1, b2, b3⟩, ⟨c1, c2, c3, c4⟩, d1, d2, d3⟩ := p3
        rw [show m3.1 1 1818 = nI nk from d3, nI_1]
        have era : ra (gI m3 1 1818 (nI (nk + 1))) = upd (ra m3) 2 (nI (nk + 1)) := ra_at (k := 2) rfl _
        have hcg : ∀ k, k < 86 → ra (gI m3 1 1818 (nI (nk + 1))) k = A3 k := by
          intro k hk
          rw [era]
          by_cases z : k = 2
          · rw [z, pk_us]; exact b2.n2.symm
          · rw [pk_un z]; exact d1 k hk z (by omega)
        refine y_tail2 (nc := nc) (nr := nr) (nk := nk + 1) (nl := nl) (f := f) (j := i3) ⟨⟨SY.mv a1 (fun _ _ => rfl) rfl, a2⟩, ⟨?_, ?_, ?_⟩, c1, c2, c3, c4⟩ (by omega) (((g5.tr h5).tr p5).tr (KM.row (r := 1818) (by omega) _))
        · exact b1.congr hn (fun _ _ _ => rfl) (fun _ => rfl) hcg
        · exact b2.congr hcg
        · rw [era]
          have := b3.up (q := 2) (by omega) (nI (nk + 1))
          exact ⟨this.1, fun k h1 h2 => this.2 k (by omega) h2⟩
      · rw [show F_X1_readTrait 14 (11 : Int32) (99 : Int32) (nI nk) y2 = _ from p1, show F_X11_perhaps (12 : Int32) (nI (1816 + (27 + 7 * nk) + 3)) (0 : Int32) (99 : Int32) (0 : Int32) m2 = _ from p2]
        exact Or.inr ⟨y3, m3, rfl, rfl, p3, (g5.tr h5).tr p4⟩
    · rw [show F_X1_readTrait 13 (10 : Int32) (99 : Int32) (nI nk) y1 = _ from h1, show F_X11_perhaps (11 : Int32) (nI (1816 + (27 + 7 * nk) + 2)) (0 : Int32) (99 : Int32) (0 : Int32) m1 = _ from h2]
      exact Or.inr ⟨y2, m2, rfl, rfl, h3, g5.tr h4⟩
  · rw [show F_X1_readTrait 12 (9 : Int32) (999 : Int32) (nI nk) y = _ from g1, show F_X11_perhaps (10 : Int32) (nI (1816 + (27 + 7 * nk) + 1)) (0 : Int32) (999 : Int32) (0 : Int32) m = _ from g2]
    exact Or.inr ⟨y1, m1, rfl, rfl, g3, g4⟩
theorem y_fpass {u : GW} (h : SY u m B n T i) (hn : NE u m) (hk : mK B (tp B i) ≠ 1) {u' : GW} (h0 : u'.1 0 0 = 0) (h9 : u'.1 0 9 = nI (tS B (tp B i))) {k : Nat} (hk1 : 1 ≤ k ∧ k ≤ 9) : ∃ u'' m', F_X8_failPassed (nI k) u' = some (0, u'') ∧ F_X11_fails (nI k) m = some (0, m') ∧ FE u'' m' ∧ Fk m m' := by
  obtain ⟨_, _, _, ⟨d1, d2, d3, d4, d5⟩, e1, e2⟩ := h
  obtain ⟨f1, f2, f3, f4⟩ := hn
  refine ⟨gI (gI u' 0 4 (nI k)) 0 5 (u'.1 0 9), _, rfl, m_fails_eq f3 _, ⟨h0, e2, ⟨k, hk1.1, hk1.2, rfl, ?_⟩, ?_⟩, fk_fail _ _⟩
  · show (if m.1 0 12 = 1 then (1 : Int32) else nI k) = nI k
    rw [d1, if_neg hk]
  · show u'.1 0 9 = m.1 0 13
    rw [h9, d2]
theorem num_in {r : Int32} {v c : Nat} (h12 : m.1 0 12 = (3 : Int32)) (h15 : m.1 0 15 = nI v) (hv : v < c) (hc : c < 1000) {m' : GW} (h : F_X11_number r (0 : Int32) (nI c - 1) m = some (0, m')) : False := by
  unfold F_X11_number at h
  rw [if_pos h12, h15, if_neg (nI_pos (by omega)), show nI c - 1 = nI (c - 1) from nI_sub (b := 1) (by omega), if_pos (nI_le (by omega) (by omega))] at h
  by_cases q : gin r 2356
  · rw [if_pos q] at h
    cases ha : F_X11_ahead (gI m 1 r.toNatClampNeg (nI v)) with
    | none => rw [ha] at h; exact absurd h (by simp)
    | some w =>
      rw [ha, Option.bind_some] at h
      have := congrArg Prod.fst (Option.some.inj h)
      exact absurd (show (1 : Int32) = 0 from this) (by decide)
  · rw [if_neg q] at h
    exact absurd h (by simp)
theorem x_clerk (h : BP y m B n T i nc nr nk nl f) (hO : tO B (tp B i)) : PO m B n T i (F_X1_readClerk y) ((F_X11_aClerk m).bind fun q => f_X11_bankPart_158 q.1 q.2) := by
  obtain ⟨⟨a1, a2⟩, ⟨b1, b2, b3⟩, c1, c2, c3, c4⟩ := h
  have hn := b2.cnt
  have hF := FU_big
  have e0 : y.1 6 5 = nI nk := b1.n2
  have e3 : y.1 6 3 = nI nc := b1.n0
  have m0 : m.1 1 1818 = nI nk := b2.n2
  have mc : m.1 1 1816 = nI nc := b2.n0
  unfold F_X1_readClerk F_X11_aClerk
  rw [e0, e3, m0, m_clerkRow, Option.bind_some, show F_X11_isFull m (2 : Int32) (6 : Int32) = some (if nk = 6 then 1 else 0) from m_isFull (j := 2) (k := 6) (by omega) m0 (by omega) (by omega), Option.bind_some]
  by_cases q : nk = 6
  · rw [if_pos q, if_neg one_ne, if_neg (nI_nltL (by omega) (by omega))]
    exact y_full (o := none) a1 a2 hO
  obtain ⟨u1, m1, g1, g2, g3, g4, g5, g6⟩ := y_adv a1 a2 hO
  have s1 : SY (gsub (gput y e_shBR_shT_1 u1) e_shBR_shT_1) m1 B n T (i + 1) := g3
  rw [if_neg q, if_pos zer_eq, if_pos (nI_ltL (by omega) (by omega)), g1, g2, Option.bind_some, Option.bind_some, m_isName s1, Option.bind_some]
  unfold F_X8_passName
  rw [show (gsub (gput y e_shBR_shT_1 u1) e_shBR_shT_1).1 0 1 = tK B (tp B (i + 1)) from s1.2.2.1.2.1, ite01]
  by_cases k2 : tK B (tp B (i + 1)) = 2
  rotate_left
  · rw [if_neg k2, if_neg k2]
    rcases y_here s1 g4 (fun _ _ => False) with ⟨_, _, _, _, z⟩ | ⟨u', m', h1, h2, h3, h4⟩
    · exact z.elim
    · rw [h1, h2]
      exact Or.inr ⟨_, m', rfl, rfl, h3, g6.km.tr h4.km⟩
  have sN : SY (gsub (gput y e_shBR_shT_1 u1) e_shBR_shT_1) (gL m1 2 (24 + nk) (tNm B (tp B (i + 1)))) B n T (i + 1) := s1
  have nN : NE (gsub (gput y e_shBR_shT_1 u1) e_shBR_shT_1) (gL m1 2 (24 + nk) (tNm B (tp B (i + 1)))) := g4
  obtain ⟨u2, m2, t1, t2, t3, t4, t5, t6⟩ := y_adv sN nN (tK_O (Or.inr (Or.inl k2)))
  have kn := t_name k2
  obtain ⟨r, r1, r2, r3⟩ := find_both (m := m1) (w := gsub (gput (gput y e_shBR_shT_1 u1) e_shBR_shT_1 u2) e_shBR_shB_6) (b := 24) (nk := nk) (y_nameHere s1 k2) kn.1 b1.n2 (by omega) (by omega) (fun k hk => by
    rw [g6.1]
    exact b1.name hk)
  rw [if_pos k2, if_pos k2, t1, Option.bind_some, Option.bind_some, if_neg one_ne, t5.1, r1, show F_X11_findHere m1 (24 : Int32) (nI nk) = some r from r2, Option.bind_some, Option.bind_some]
  have k1 : KM m m1 := g6.km
  have km2 : KM m m2 := (k1.tr (KM.name (k := 24 + nk) (by omega) _)).tr t6.km
  by_cases er : r = (-1 : Int32)
  rotate_left
  · rw [if_neg er, if_neg er]
    obtain ⟨u', m', h1, h2, h3, h4⟩ := y_fpass s1 g4 (by rw [kn.2.1]; decide) (u' := gsub (gput (gput y e_shBR_shT_1 u1) e_shBR_shT_1 u2) e_shBR_shT_1) t3.2.2.2.2.1 t5.2 (k := 3) (by omega)
    rw [show F_X8_failPassed (3 : Int32) (gsub (gput (gput y e_shBR_shT_1 u1) e_shBR_shT_1 u2) e_shBR_shT_1) = _ from h1, show F_X11_fails (3 : Int32) m1 = _ from h2]
    exact Or.inr ⟨_, m', rfl, rfl, h3, k1.tr h4.km⟩
  rw [if_pos er, if_pos er, y_nameHere s1 k2, Option.bind_some, nq_Ladd, if_pos (gin_nI (by show 24 + nk < 36; omega) (by omega)), nI_clamp (n := OfNat.ofNat 24 + nk) (by show 24 + nk < _; omega), show F_X11_ahead (gL m1 2 (OfNat.ofNat 24 + nk) (tNm B (tp B (i + 1)))) = _ from t2, Option.bind_some]
  have s2 : SY (gsub (gput (gput y e_shBR_shT_1 u1) e_shBR_shT_1 u2) e_shBR_shT_1) m2 B n T (i + 1 + 1) := t3
  rcases y_word s2 t4 (k := 8) (by omega) with ⟨u3, m3, h1, h2, p1, p2, p3⟩ | ⟨u3, m3, h1, h2, h3, h4⟩
  rotate_left
  · rw [show F_X8_passWord (8 : Int32) _ = _ from h1, show F_X11_wantWord (9 : Int32) m2 = _ from h2]
    exact Or.inr ⟨_, m3, rfl, rfl, h3, km2.tr h4.km⟩
  have s3 : SY (gsub (gput (gput (gput y e_shBR_shT_1 u1) e_shBR_shT_1 u2) e_shBR_shT_1 u3) e_shBR_shT_1) m3 B n T (i + 1 + 1 + 1) := p1
  have era3 : ra m3 = ra m := by
    rw [ra_fr p3, ra_fr t6]
    show ra m1 = _
    rw [ra_fr g6]
  have erb3 : rb m3 = vp_updL (rb m) nk (tNm B (tp B (i + 1))) := by
    rw [rb_fr p3, rb_fr t6, rb_name, rb_fr g6]
  have mc3 : m3.1 1 1816 = nI nc := by
    show ra m3 0 = _
    rw [era3]
    exact b2.n0
  have km3 : KM m m3 := km2.tr p3.km
  have f3 : m3.1 0 20 = nI f := by
    rw [p3.2.2 20 (by omega), t6.2.2 20 (by omega)]
    show m1.1 0 20 = _
    rw [g6.2.2 20 (by omega)]
    exact c1
  rw [show F_X8_passWord (8 : Int32) _ = _ from h1, show F_X11_wantWord (9 : Int32) m2 = _ from h2, Option.bind_some, Option.bind_some, if_neg one_ne, if_neg one_ne, mc3]
  have hmk : mK B (tp B (i + 1 + 1 + 1)) = m3.1 0 12 := s3.2.2.2.1.1.symm
  rcases y_num s3 p2 (0 : Int32) (nI nc - 1) (r := 1816 + (27 + 7 * nk)) (by omega) with ⟨u4, m4, h3, h4, v, v1, v2, v3, w1, w2, w3, w4, w5, w6, w7⟩ | ⟨u4, m4, h3, h4, h5, h6⟩
  · have hvc : v < nc := by
      by_cases z : nc = 0
      · exfalso
        rw [z, show nI 0 - 1 = (-1 : Int32) by decide] at v3
        have h9 : (0 : Int32) ≤ nI v := v2
        exact absurd (Int32.le_trans h9 v3) (by decide)
      · rw [show nI nc - 1 = nI (nc - 1) from nI_sub (b := 1) (by omega)] at v3
        have := (nI_leI (by omega) (by omega)).mp v3
        omega
    have h12 : m3.1 0 12 = (3 : Int32) := by
      rw [← hmk]
      rcases kinds B (tp B (i + 1 + 1 + 1)) with z | z | z | z | z | z | z
      · rw [z.1] at w6; exact absurd w6 (by decide)
      · rw [z.1] at w6; exact absurd w6 (by decide)
      · rw [z.1] at w6; exact absurd w6 (by decide)
      · rw [z.1] at w6; exact absurd w6 (by decide)
      · exact z.2.1
      · rw [z.1] at w6; exact absurd w6 (by decide)
      · rw [z.1] at w6; exact absurd w6 (by decide)
    have bq : Bq (gsub (gput (gput (gput (gput y e_shBR_shT_1 u1) e_shBR_shT_1 u2) e_shBR_shT_1 u3) e_shBR_shT_1 u4) e_shBR_shB_6) (ra m) (rb m) nc nr nk nl := b1
    have sit : F_X11_sitterIn m3 (1816 : Int32) (nI v) = some (fi (fun c => ra m (27 + 7 * c) = nI v) 0 nk) := m_sitter_l (s := 1816) (a := ra m) (m := m3) (by omega) (fun k _ => by show ra m3 k = _; rw [era3]) b2 (nI v) nk FU 0 (by omega) (by omega)
    rw [h3, Option.bind_some, if_neg one_ne, show F_X8_passedNumber (gsub (gput (gput (gput (gput y e_shBR_shT_1 u1) e_shBR_shT_1 u2) e_shBR_shT_1 u3) e_shBR_shT_1 u4) e_shBR_shT_1) = _ from w3, Option.bind_some, x_sitter bq b2, Option.bind_some, if_pos h12, w7, if_neg (nI_ge hvc (by omega)), sit, Option.bind_some, Option.bind_some]
    rcases fi_cases (fun c => ra m (27 + 7 * c) = nI v) nk 0 (by omega) with ⟨z1, z2⟩ | ⟨k, z1, z2, z3, z4⟩
    rotate_left
    · rw [z3, if_neg (nI_nm (by omega)), if_neg (nI_nm (by omega))]
      obtain ⟨u', m', j1, j2, j3, j4⟩ := y_fpass s3 p2 (by rw [hmk, h12]; decide) (u' := gsub (gput (gput (gput (gput y e_shBR_shT_1 u1) e_shBR_shT_1 u2) e_shBR_shT_1 u3) e_shBR_shT_1 u4) e_shBR_shT_1) w1.2.2.2.2.1 w5.2 (k := 5) (by omega)
      rw [show F_X8_failPassed (5 : Int32) (gsub (gput (gput (gput (gput y e_shBR_shT_1 u1) e_shBR_shT_1 u2) e_shBR_shT_1 u3) e_shBR_shT_1 u4) e_shBR_shT_1) = _ from j1, show F_X11_fails (5 : Int32) m3 = _ from j2]
      exact Or.inr ⟨_, m', rfl, rfl, j3, km3.tr j4.km⟩
    unfold f_X11_aClerk_145
    rw [z1, if_pos rfl, if_pos rfl, nq_Ladd, mc3, show F_X11_number (nI (OfNat.ofNat 1816 + (27 + 7 * nk))) (0 : Int32) (nI nc - 1) m3 = _ from h4, Option.bind_some, if_neg one_ne, nq_addL, nq_addL, nq_addL]
    obtain ⟨w', x1, x2⟩ := x_addClerk bq b2 (by omega) kn.1 (nI v)
    rw [x1, Option.bind_some]
    have era4 : ra m4 = upd (ra m) (27 + 7 * nk) (nI v) := by
      rw [ra_fr w4, ra_at (k := 27 + 7 * nk) rfl, era3]
    have erb4 : rb m4 = vp_updL (rb m) nk (tNm B (tp B (i + 1))) := by
      rw [rb_fr w4, rb_row, erb3]
    have km4 : KM m m4 := (km3.tr (KM.row (r := 1816 + (27 + 7 * nk)) (by omega) _)).tr w4.km
    have hsit : ∀ k, k < nk → ra m (27 + 7 * k) ≠ nI v := fun k hk => z2 k (by omega) (by omega)
    have hct : CT (gput (gput (gput (gput (gput y e_shBR_shT_1 u1) e_shBR_shT_1 u2) e_shBR_shT_1 u3) e_shBR_shT_1 u4) e_shBR_shB_6 w') m4 B n T (i + 1 + 1 + 1 + 1) nc nr nk nl f (aHire (ra m) nk (nI v)) 1 := by
      refine ⟨⟨w1, w2⟩, ⟨?_, b2.hire (by omega) hvc hsit, ?_⟩, ⟨?_, c2, c3, c4⟩, fun k j1 j2 j3 => ?_, fun k j1 j2 => aHire_0 (by omega) (by omega), ?_⟩
      · rw [erb4]; exact x2
      · rw [era4]; exact b3.up (by omega) _
      · rw [w4.2.2 20 (by omega)]
        exact f3
      · rw [era4]
        by_cases j4 : k = 27 + 7 * nk
        · rw [j4, pk_us, aHire_s]
        · rw [pk_un j4]
          by_cases j5 : k < 27 + 7 * nk ∨ 34 + 7 * nk ≤ k
          · rw [aHire_n j2 j5]
          · rw [aHire_0 (by omega) (by omega)]
            have j6 := b3.2 nk (Nat.le_refl nk) (by omega)
            rcases (show k = 27 + 7 * nk + 4 ∨ k = 27 + 7 * nk + 5 ∨ k = 27 + 7 * nk + 6 by omega) with j7 | j7 | j7
            · rw [j7]; exact j6.1
            · rw [j7]; exact j6.2.1
            · rw [j7]; exact j6.2.2
      · rw [era4, pk_un (by omega)]; exact b2.n2
    have fin := x_traits (by omega) hct
    refine PO.km km4 ?_
    rcases fin with ⟨y', m', nc', nr', nk', nl', f', j, o1, o2, o3, o4, o5⟩ | ⟨y', m', o1, o2, o3⟩
    · exact Or.inl ⟨y', m', nc', nr', nk', nl', f', j, o1, o2, o3, by omega, o5⟩
    · exact Or.inr ⟨y', m', o1, o2, o3⟩
  · rw [h3, Option.bind_some, if_pos zer_eq]
    have l145 : f_X11_aClerk_145 ((1816 : Int32) + nI (27 + 7 * nk)) m3 = some (0, m4) := by
      unfold f_X11_aClerk_145
      rw [nq_Ladd, mc3, show F_X11_number (nI (OfNat.ofNat 1816 + (27 + 7 * nk))) (0 : Int32) (nI nc - 1) m3 = _ from h4]
      rfl
    rw [l145]
    by_cases h12 : m3.1 0 12 = (3 : Int32)
    · rw [if_pos h12]
      obtain ⟨v, hv, hv2⟩ : ∃ v, v < 10000 ∧ m3.1 0 15 = nI v := by
        have d4 := s3.2.2.2.1.2.2.2.1 (by rw [hmk]; exact h12)
        rcases kinds B (tp B (i + 1 + 1 + 1)) with z | z | z | z | z | z | z
        · rw [hmk, h12] at z; exact absurd z.2 (by decide)
        · rw [hmk, h12] at z; exact absurd z.2.1 (by decide)
        · rw [hmk, h12] at z; exact absurd z.2.1 (by decide)
        · rw [hmk, h12] at z; exact absurd z.2.1 (by decide)
        · exact ⟨_, z.2.2.2, d4⟩
        · rw [hmk, h12] at z; exact absurd z.2.1 (by decide)
        · rw [hmk, h12] at z; exact absurd z.2 (by decide)
      have hge : nc ≤ v := by
        rcases Nat.lt_or_ge v nc with z | z
        · exact (num_in h12 hv2 z (by omega) h4).elim
        · exact z
      rw [hv2, if_pos (nI_le hge (by omega))]
      exact Or.inr ⟨_, m4, rfl, rfl, h5, km3.tr h6.km⟩
    · rw [if_neg h12]
      exact Or.inr ⟨_, m4, rfl, rfl, h5, km3.tr h6.km⟩
end
