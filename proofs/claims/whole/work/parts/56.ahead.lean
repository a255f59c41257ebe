/-! Years ahead, by a copy of the bank; one client, one clerk more. -/
def aKp (a : Nat → Int32) (i : Nat) : Nat → Int32 := fun k => if 2270 ≤ k ∧ k < 2270 + i then a (k - 2270) else a k
def aRp (a : Nat → Int32) (i : Nat) : Nat → Int32 := fun k => if k < i then a (2270 + k) else a k
section
variable {x m : GW} {nc nr nk nl : Nat} {a : Nat → Int32}
theorem m_keeps_l : ∀ k n i, i + k = 86 → k < n → f_X11_keeps_2 n (nI i) (pA m (aKp a i)) = some (pA m (aKp a 86)) := by
  intro k
  induction k with
  | zero =>
    intro n i e h1
    obtain ⟨n, rfl⟩ := fu_pos h1
    show b_X11_keeps_2 _ (nI i) _ = _
    unfold b_X11_keeps_2
    rw [if_pos (nI_leL (by omega) (by omega)), show i = 86 by omega]
  | succ k ih =>
    intro n i e h1
    obtain ⟨n, rfl⟩ := fu_pos h1
    show b_X11_keeps_2 _ (nI i) _ = _
    unfold b_X11_keeps_2
    rw [if_neg (nI_geL (by omega) (by omega)), if_pos (gin_nI (by omega) (by omega)), nq_Ladd, if_pos (gin_nI (by show 2270 + i < 2356; omega) (by omega)), nI_clamp (n := 2270 + i) (by omega), nI_clamp (n := i) (by omega), gI_pA, pA_pA, pA_1, nI_1, ← ih n (i + 1) (by omega) (by omega)]
    congr 2
    funext j
    show upd (aKp a i) (2270 + i) (aKp a i i) j = aKp a (i + 1) j
    by_cases ej : j = 2270 + i
    · subst ej
      rw [pk_us]
      unfold aKp
      rw [if_neg (by omega), if_pos (by omega), show 2270 + i - 2270 = i by omega]
    · rw [pk_un ej]
      unfold aKp
      by_cases e4 : 2270 ≤ j ∧ j < 2270 + i
      · rw [if_pos e4, if_pos (by omega)]
      · rw [if_neg e4, if_neg (by omega)]
theorem m_keeps : F_X11_keeps (pA m a) = some (pA m (aKp a 86)) := by
  have h := m_keeps_l (m := m) (a := a) 86 FU 0 (by omega) (by have := FU_big; omega)
  have e : aKp a 0 = a := by
    funext k
    unfold aKp
    rw [if_neg (by omega)]
  rw [e] at h
  exact h
theorem m_restores_l : ∀ k n i, i + k = 86 → k < n → f_X11_restores_2 n (nI i) (pA m (aRp a i)) = some (pA m (aRp a 86)) := by
  intro k
  induction k with
  | zero =>
    intro n i e h1
    obtain ⟨n, rfl⟩ := fu_pos h1
    show b_X11_restores_2 _ (nI i) _ = _
    unfold b_X11_restores_2
    rw [if_pos (nI_leL (by omega) (by omega)), show i = 86 by omega]
  | succ k ih =>
    intro n i e h1
    obtain ⟨n, rfl⟩ := fu_pos h1
    show b_X11_restores_2 _ (nI i) _ = _
    unfold b_X11_restores_2
    rw [if_neg (nI_geL (by omega) (by omega)), nq_Ladd, if_pos (gin_nI (by show 2270 + i < 2356; omega) (by omega)), if_pos (gin_nI (by omega) (by omega)), nI_clamp (n := 2270 + i) (by omega), nI_clamp (n := i) (by omega), gI_pA, pA_pA, pA_1, nI_1, ← ih n (i + 1) (by omega) (by omega)]
    congr 2
    funext j
    show upd (aRp a i) i (aRp a i (2270 + i)) j = aRp a (i + 1) j
    by_cases ej : j = i
    · subst ej
      rw [pk_us]
      unfold aRp
      rw [if_neg (by omega), if_pos (by omega)]
    · rw [pk_un ej]
      unfold aRp
      by_cases e4 : j < i
      · rw [if_pos e4, if_pos (by omega)]
      · rw [if_neg e4, if_neg (by omega)]
theorem m_restores : F_X11_restores (pA m a) = some (pA m (aRp a 86)) := by
  have h := m_restores_l (m := m) (a := a) 86 FU 0 (by omega) (by have := FU_big; omega)
  have e : aRp a 0 = a := by
    funext k
    unfold aRp
    rw [if_neg (by omega)]
  rw [e] at h
  exact h
/-- what stood ahead comes back -/
theorem aRp_back {b : Nat → Int32} (h : ∀ k, 86 ≤ k → b k = aKp a 86 k) : aRp b 86 = aKp a 86 := by
  funext k
  unfold aRp
  by_cases e : k < 86
  · rw [if_pos e, h _ (by omega)]
    unfold aKp
    rw [if_pos (by omega), if_neg (by omega), show 2270 + k - 2270 = k by omega]
  · rw [if_neg e, h _ (by omega)]
theorem aKp_lo {k : Nat} (h : k < 2270) : aKp a 86 k = a k := by
  unfold aKp
  rw [if_neg (by omega)]
theorem RR.row (h : RR x m) {a' : Nat → Int32} (ha : ∀ k, k < 1816 → a' k = m.1 1 k) : RR x (pA m a') := by
  obtain ⟨h1, h2, h3, h4, h5, h6⟩ := h
  exact ⟨h1, h2, h3, h4.congr (fun _ _ _ => rfl) (fun _ => rfl) (fun _ _ _ => rfl) (fun k hk => ha k (by omega)) (fun _ _ => rfl), h5.congr (m' := pA m a') rfl (fun k _ hk => ha k hk) (fun _ _ _ => rfl), h6⟩
theorem RR.spare (h : RR x m) (w' : GW) : RR (gput x e_shX_shB_27 w') m := ⟨h.1, h.2.1, h.2.2.1, h.2.2.2.1, h.2.2.2.2.1, h.2.2.2.2.2⟩
theorem RR.spare2 (h : RR x m) : RR (gput x e_shX_shBB_27_14 (cpB (gsub x e_shX_shBB_27_14))) m := ⟨h.1, h.2.1, h.2.2.1, h.2.2.2.1, h.2.2.2.2.1, h.2.2.2.2.2⟩
theorem spare_bank (hb : Bq (gsub x e_shX_shB_14) a (m.2 2) nc nr nk nl) (hi : Bi a nc nr nk nl) : Bq (gsub (gput x e_shX_shBB_27_14 (cpB (gsub x e_shX_shBB_27_14))) e_shX_shB_27) a (m.2 2) nc nr nk nl := by
  have h : Bq (bB2 (gsub x e_shX_shBB_27_14)) a (m.2 2) nc nr nk nl := hb
  exact h.copy hi.cnt
theorem gsub_gput27 (x w' : GW) {i : Nat} (hi : i < 13) (k : Nat) : (gsub (gput x e_shX_shB_27 w') e_shX_shB_27).1 i k = w'.1 i k := by
  have h1 : gix e_shX_shB_27 i = 27 + i := (by decide : ∀ j : Fin 13, gix e_shX_shB_27 j.val = 27 + j.val) ⟨i, hi⟩
  have h2 : gfind e_shX_shB_27 (27 + i) = some i := (by decide : ∀ j : Fin 13, gfind e_shX_shB_27 (27 + j.val) = some j.val) ⟨i, hi⟩
  show (match gfind e_shX_shB_27 (gix e_shX_shB_27 i) with | some j => w'.1 j k | none => x.1 (gix e_shX_shB_27 i) k) = w'.1 i k
  rw [h1, h2]
theorem unp_l {A : Nat → Int32} (old : Int32) : ∀ k n n2 i (x : GW) (a : Nat → Int32), RR x (pA m (aKp A 86)) → Bq (gsub x e_shX_shB_27) a (m.2 2) nc nr nk nl → Bi a nc nr nk nl → (∀ k, 86 ≤ k → a k = aKp A 86 k) → i + k = 100 → k < n → k + 1 < n2 → Sm (f_X10_unpaidIn_21 n old (nI i) x) (f_X11_unpaidIn_15 n2 old (-1) (nI i) (pA m a)) := by
  intro k
  induction k with
  | zero =>
    intro n n2 i x a h hb hi ha e h1 h2
    obtain ⟨n, rfl⟩ := fu_pos h1
    obtain ⟨n2, rfl⟩ := fu_pos h2
    show Sm (b_X10_unpaidIn_21 _ old (nI i) x) (b_X11_unpaidIn_15 _ old (-1) (nI i) (pA m a))
    unfold b_X10_unpaidIn_21 b_X11_unpaidIn_15 f_X11_unpaidIn_49
    rw [if_pos (nI_gtL (by omega) (by omega)), if_pos (nI_gtL (by omega) (by omega)), m_restores, Option.bind_some, aRp_back ha]
    exact Sm.fin h _ _
  | succ k ih =>
    intro n n2 i x a h hb hi ha e h1 h2
    obtain ⟨n, rfl⟩ := fu_pos h1
    obtain ⟨n2, rfl⟩ := fu_pos (show 1 < n2 by omega)
    have hn := hi.cnt
    obtain ⟨w', e1, hb1⟩ := x_year hb hi
    have hi1 : Bi (aYr nr 0 nk (0, a)).2 nc nr nk nl := hi.yr 0
    have hb2 : Bq (gsub (gput x e_shX_shB_27 w') e_shX_shB_27) (aYr nr 0 nk (0, a)).2 (m.2 2) nc nr nk nl := hb1
    have ha1 : ∀ k, 86 ≤ k → (aYr nr 0 nk (0, a)).2 k = aKp A 86 k := fun k hk => (aYr_keep (by omega) (by omega) _).trans (ha k hk)
    show Sm (b_X10_unpaidIn_21 _ old (nI i) x) (b_X11_unpaidIn_15 _ old (-1) (nI i) (pA m a))
    unfold b_X10_unpaidIn_21 b_X11_unpaidIn_15 f_X11_unpaidIn_43
    rw [if_neg (nI_ngtL (by omega) (by omega)), if_neg (nI_ngtL (by omega) (by omega)), if_pos rfl, e1, m_year hi, Option.bind_some, Option.bind_some]
    dsimp only
    rw [x_unpaid_all hb2 hi1, show F_X11_together (pA m (aYr nr 0 nk (0, a)).2) (6 : Int32) = _ from m_together (m := pA m (aYr nr 0 nk (0, a)).2) hi1 (j := 6) (by omega), Option.bind_some, Option.bind_some, nI_1, pA_1]
    by_cases hl : sTot (aYr nr 0 nk (0, a)).2 nk 6 ≤ old
    · rw [if_pos hl, if_pos hl]
      exact ih n n2 (i + 1) _ _ (h.spare w') hb2 hi1 ha1 (by omega) (by omega) (by omega)
    · rw [if_neg hl, if_neg hl]
      obtain ⟨n2, rfl⟩ := fu_pos (show 0 < n2 by omega)
      show Sm _ (b_X11_unpaidIn_15 _ old (nI i) (nI (i + 1)) (pA m (aYr nr 0 nk (0, a)).2))
      unfold b_X11_unpaidIn_15 f_X11_unpaidIn_49
      rw [if_neg (nI_nm (by omega)), ite_self, m_restores, Option.bind_some, aRp_back ha1]
      simp only [F_X10_answer, F_X10_refuse, F_X10_answerOrRefuse, F_X10_grant, F_X10_deny, F_X11_gives, F_X11_refuse, F_X11_orNone, F_X11_is, Option.bind_some, ite01]
      rw [if_neg (nI_nm (by omega))]
      exact Sm.fin (h.spare w') _ _
theorem s_unpaidIn (h : RR x m) : Sm (F_X10_unpaidIn x) (F_X11_unpaidIn m) := by
  obtain ⟨nc, nr, nk, nl, hb, hi⟩ := h.bnk
  have hn := hi.cnt
  have hk := m_keeps (m := m) (a := m.1 1)
  rw [pA_id] at hk
  have hb2 := spare_bank (m := m) hb hi
  have hlo : ∀ k, k < 86 → aKp (m.1 1) 86 k = m.1 1 k := fun k hk => aKp_lo (by omega)
  unfold F_X10_unpaidIn F_X11_unpaidIn
  rw [x_copyB, Option.bind_some, x_unpaid_all hb2 hi, Option.bind_some, show F_X11_together m (6 : Int32) = _ from m_together hi (j := 6) (by omega), Option.bind_some, hk, Option.bind_some]
  have h3 : RR (gput x e_shX_shBB_27_14 (cpB (gsub x e_shX_shBB_27_14))) (pA m (aKp (m.1 1) 86)) := h.spare2.row (fun k hk => aKp_lo (by omega))
  exact unp_l (m := m) (A := m.1 1) _ 99 FU FU 1 _ _ h3 (hb2.congr hn (fun _ _ _ => rfl) (fun _ => rfl) hlo) (hi.congr hlo) (fun _ _ => rfl) (by omega) (by have := FU_big; omega) (by have := FU_big; omega)
theorem cash_l {y : Nat} (hy : y < 1000) : ∀ k n i (x : GW) (a : Nat → Int32) (m : GW), RR x m → Bq (gsub x e_shX_shB_27) a (m.2 2) nc nr nk nl → Bi a nc nr nk nl → i + k = y → k < n → ∀ t, ∃ x', RR x' m ∧ f_X10_cashIn_27 n (nI y) (nI i) x = some ((aYn nr nk i k (t, a)).2 5, gI x' 0 15 0) := by
  intro k
  induction k with
  | zero =>
    intro n i x a m h hb hi e h1 t
    obtain ⟨n, rfl⟩ := fu_pos h1
    refine ⟨x, h, ?_⟩
    show b_X10_cashIn_27 _ (nI y) (nI i) x = _
    unfold b_X10_cashIn_27
    rw [if_pos (nI_le (by omega) (by omega)), show x.1 27 1 = a 5 from hb.cash]
    rfl
  | succ k ih =>
    intro n i x a m h hb hi e h1 t
    obtain ⟨n, rfl⟩ := fu_pos h1
    obtain ⟨w', e1, hb1⟩ := x_year hb hi
    have hi1 : Bi (aYr nr 0 nk (0, a)).2 nc nr nk nl := hi.yr 0
    have hb2 : Bq (gsub (gput x e_shX_shB_27 w') e_shX_shB_27) (aYr nr 0 nk (0, a)).2 (m.2 2) nc nr nk nl := hb1
    obtain ⟨x', h2, h3⟩ := ih n (i + 1) (gput x e_shX_shB_27 w') _ m (h.spare w') hb2 hi1 (by omega) (by omega) (t + (aYr nr 0 nk (0, a)).1)
    refine ⟨x', h2, ?_⟩
    show b_X10_cashIn_27 _ (nI y) (nI i) x = _
    unfold b_X10_cashIn_27
    rw [if_neg (nI_ge (by omega) (by omega)), e1, Option.bind_some, nI_1]
    exact h3
theorem s_cashIn (h : RR x m) (u : Int32) : Sm (F_X10_cashIn u x) (F_X11_cashIn u m) := by
  obtain ⟨nc, nr, nk, nl, hb, hi⟩ := h.bnk
  have hn := hi.cnt
  unfold F_X10_cashIn F_X11_cashIn
  rw [x_isYears, show F_X11_isFrom u.toInt64 (0 : Int64) (40 : Int64) = some (if btw u 0 40 then 1 else 0) from m_from u (p := 0) (q := 40) (by omega) (by omega)]
  simp only [F_X10_answer, F_X10_refuse, F_X10_answerOrRefuse, F_X10_grant, F_X10_deny, F_X11_gives, F_X11_refuse, F_X11_orNone, F_X11_is, Option.bind_some, ite01]
  by_cases hu : btw u 0 40
  · obtain ⟨y, _, hy, rfl⟩ := btw_of hu (by omega) (by omega)
    have hk := m_keeps (m := m) (a := m.1 1)
    rw [pA_id] at hk
    have hlo : ∀ k, k < 86 → aKp (m.1 1) 86 k = m.1 1 k := fun k hk => aKp_lo (by omega)
    have hiK : Bi (aKp (m.1 1) 86) nc nr nk nl := hi.congr hlo
    have hbK := (spare_bank (m := m) hb hi).congr hn (fun _ _ _ => rfl) (fun _ => rfl) hlo
    have h3 : RR (gput x e_shX_shBB_27_14 (cpB (gsub x e_shX_shBB_27_14))) (pA m (aKp (m.1 1) 86)) := h.spare2.row (fun k hk => aKp_lo (by omega))
    obtain ⟨x', h4, h5⟩ := cash_l (y := y) (by omega) y FU 0 _ _ (pA m (aKp (m.1 1) 86)) h3 hbK hiK (by omega) (by have := FU_big; omega) 0
    rw [if_pos hu, if_pos hu, x_copyB, Option.bind_some, hk, Option.bind_some, m_years hiK (by omega), Option.bind_some]
    dsimp only
    rw [m_restores, Option.bind_some, aRp_back (a := m.1 1) (fun k hk => aYn_keep (by omega) (by omega) 0 y _), pA_1]
    rw [show f_X10_cashIn_27 FU (nI y) 0 (gput x e_shX_shBB_27_14 (cpB (gsub x e_shX_shBB_27_14))) = _ from h5]
    exact Sm.fin h4 _ _
  · rw [if_neg hu, if_neg hu]
    exact Sm.fin h _ _
/-! one client more, one clerk more -/
theorem x_addClient' {w : GW} {a1 : Nat → Int32} {nm : Nat → Int64} (h : Bq w a1 nm nc nr nk nl) (hn : nc ≤ 7 ∧ nr ≤ 5 ∧ nk ≤ 6 ∧ nl ≤ 8) (hl : nl < 8) {b : Nat → Int32} {s v : Int32} (hb : ∀ k, k ≠ 3 → k < 69 + 2 * nl → b k = a1 k) (hs : s = b (69 + 2 * nl)) (hv : v = b (69 + 2 * nl + 1)) : ∃ w', F_X0_addClient s v w = some (nI nl, w') ∧ Bq w' b nm nc nr nk (nl + 1) := by
  have h1 := h.a3 hn hb
  rw [← gI_id w h.n3] at h1
  refine ⟨_, ?_, h1.snoc hs hv⟩
  unfold F_X0_addClient
  rw [h.n3, if_pos (nI_ltL (by omega) (by omega)), if_pos (gin_nI (by omega) (by omega)), nI_clamp (by omega), nI_1, show nI (nl + 1) - (1 : Int32) = nI nl from nI_pred nl]
theorem s_open (h : RR x m) (u v : Int32) : Sm (F_X10_open u v x) (F_X11_open u v m) := by
  obtain ⟨nc, nr, nk, nl, hb, hi⟩ := h.bnk
  have hn := hi.cnt
  unfold F_X10_open F_X11_open f_X10_open_21 f_X11_open_24
  rw [show F_X10_between u (1 : Int32) (99 : Int32) = some (if btw u 1 99 then 1 else 0) from x_btw u 1 99, show F_X10_between v (0 : Int32) (999 : Int32) = some (if btw v 0 999 then 1 else 0) from x_btw v 0 999, show F_X11_isFrom u.toInt64 (1 : Int64) (99 : Int64) = some (if btw u 1 99 then 1 else 0) from m_from u (p := 1) (q := 99) (by omega) (by omega), show F_X11_isFrom v.toInt64 (0 : Int64) (999 : Int64) = some (if btw v 0 999 then 1 else 0) from m_from v (p := 0) (q := 999) (by omega) (by omega)]
  simp only [F_X10_answer, F_X10_refuse, F_X10_answerOrRefuse, F_X10_grant, F_X10_deny, F_X11_gives, F_X11_refuse, F_X11_orNone, F_X11_is, Option.bind_some, ite01]
  rw [if_and, if_and]
  by_cases hu : btw u 1 99 ∧ btw v 0 999
  · obtain ⟨s, hs1, hs, rfl⟩ := btw_of hu.1 (by omega) (by omega)
    obtain ⟨y, _, hy, rfl⟩ := btw_of hu.2 (by omega) (by omega)
    rw [if_pos hu, if_pos hu, show x.1 14 6 = nI nl from hb.n3, hi.n3]
    by_cases hl : nl < 8
    · rw [if_pos (nI_ltL (by omega) (by omega)), if_neg (nI_neL (by omega) (by omega) (by omega)), show x.1 14 1 = m.1 1 5 from hb.cash, m_clientRow, Option.bind_some, Option.bind_some, nI_1, nI_1, if_pos (gin_nI (by omega) (by omega)), if_pos (gin_nI (by omega) (by omega)), nI_clamp (n := 69 + 2 * nl) (by omega), nI_clamp (n := 69 + 2 * nl + 1) (by omega)]
      have h1 : Bq (gsub (gI x 14 1 (imin (9999 : Int32) (m.1 1 5 + nI s))) e_shX_shB_14) (upd (m.1 1) 5 (imin (9999 : Int32) (m.1 1 5 + nI s))) (m.2 2) nc nr nk nl := (hb.set_cash hn _).congr hn (fun i k hi => gsub_gI14 x (c := 0) 1 _ hi k) (fun _ => rfl) (fun _ _ => rfl)
      obtain ⟨w', e1, h2⟩ := x_addClient' h1 hn hl (b := aOpen (m.1 1) nl (nI s) (nI y)) (s := nI s) (v := nI y) (fun k h3 hk => by
        unfold aOpen
        by_cases e : k = 5
        · subst e; rw [pk_us, pk_us]
        · rw [pk_un e, pk_un (by omega), pk_un (by omega), pk_un h3, pk_un e]) (by unfold aOpen; rw [pk_un (by omega), pk_un (by omega), pk_us]) (by unfold aOpen; rw [pk_un (by omega), pk_us])
      rw [e1, Option.bind_some]
      dsimp only
      rw [gput_gI14]
      have em : gI (gI (gI (gI m 1 3 (nI (nl + 1))) 1 (69 + 2 * nl) (nI s)) 1 (69 + 2 * nl + 1) (nI y)) 1 5 (imin (9999 : Int32) ((gI (gI (gI m 1 3 (nI (nl + 1))) 1 (69 + 2 * nl) (nI s)) 1 (69 + 2 * nl + 1) (nI y)).1 1 5 + nI s)) = pA m (aOpen (m.1 1) nl (nI s) (nI y)) := by
        simp only [gI_pA, pA_pA, pA_1]
        rw [pk_un (by omega), pk_un (by omega), pk_un (by omega)]
        rfl
      rw [em]
      exact Sm.fin (h.bank hb hi h2 (hi.opn hl ⟨hs1, hs⟩ hy) (Nat.le_refl _) (by unfold aOpen; rw [pk_un (by omega), pk_un (by omega), pk_un (by omega), pk_un (by omega)]) (fun k hk => by unfold aOpen; rw [pk_un (by omega), pk_un (by omega), pk_un (by omega), pk_un (by omega)])) _ _
    · rw [if_neg (nI_nltL (by omega) (by omega)), if_pos (show nI nl = (8 : Int32) by rw [show nl = 8 by omega]; rfl)]
      exact Sm.fin h _ _
  · rw [if_neg hu, if_neg hu]
    exact Sm.fin h _ _
def aHp (a : Nat → Int32) (c i : Nat) : Nat → Int32 := fun k => if k = 2 then nI (c + 1) else if 27 + 7 * c ≤ k ∧ k < 27 + 7 * c + i then 0 else a k
theorem m_hire_l {c : Nat} (hc : c < 6) (s : Int32) : ∀ k n i, i + k = 7 → k < n → f_X11_hire_62 n s (nI c) (nI i) (pA m (aHp a c i)) = some (nI c, gI (gL (pA m (aHire a c s)) 2 c 0) 0 2 0) := by
  intro k
  induction k with
  | zero =>
    intro n i e h1
    obtain ⟨n, rfl⟩ := fu_pos h1
    show b_X11_hire_62 _ s (nI c) (nI i) _ = _
    unfold b_X11_hire_62
    rw [if_pos (nI_leL (by omega) (by omega)), m_clerkRow, Option.bind_some, if_pos (gin_nI (by omega) (by omega)), if_pos (gin_nI (by omega) (by omega)), nI_clamp (n := 27 + 7 * c) (by omega), nI_clamp (n := c) (by omega), gI_pA, pA_pA, pA_1]
    have e2 : upd (aHp a c i) (27 + 7 * c) s = aHire a c s := by
      funext j
      unfold aHp aHire upd
      dsimp only
      by_cases e1 : j = 27 + 7 * c
      · rw [if_pos e1, if_neg (by omega), if_pos e1]
      · rw [if_neg e1]
        by_cases e3 : j = 2
        · rw [if_pos e3, if_pos e3]
        · rw [if_neg e3, if_neg e3, if_neg e1, show 27 + 7 * c + i = 34 + 7 * c by omega]
    rw [e2]
    rfl
  | succ k ih =>
    intro n i e h1
    obtain ⟨n, rfl⟩ := fu_pos h1
    show b_X11_hire_62 _ s (nI c) (nI i) _ = _
    unfold b_X11_hire_62
    rw [if_neg (nI_geL (by omega) (by omega)), m_clerkRow, Option.bind_some, nI_add, if_pos (gin_nI (by omega) (by omega)), nI_clamp (n := 27 + 7 * c + i) (by omega), gI_pA, pA_pA, pA_1, nI_1, ← ih n (i + 1) (by omega) (by omega)]
    congr 2
    funext j
    unfold aHp upd
    dsimp only
    by_cases e1 : j = 27 + 7 * c + i
    · rw [if_pos e1, if_neg (by omega), if_pos (by omega)]
    · rw [if_neg e1]
      by_cases e3 : j = 2
      · rw [if_pos e3, if_pos e3]
      · rw [if_neg e3, if_neg e3]
        by_cases e4 : 27 + 7 * c ≤ j ∧ j < 27 + 7 * c + i
        · rw [if_pos e4, if_pos (by omega)]
        · rw [if_neg e4, if_neg (by omega)]
theorem RR.bankn (h : RR x m) {w' : GW} {a' : Nat → Int32} {nc nr nk nl nr' nk' nl' j : Nat} {v : Int64} (hj : j < 6) (hb : Bq (gsub x e_shX_shB_14) (m.1 1) (m.2 2) nc nr nk nl) (hi : Bi (m.1 1) nc nr nk nl) (hb' : Bq w' a' (vp_updL (m.2 2) j v) nc nr' nk' nl') (hi' : Bi a' nc nr' nk' nl') (hk : nk ≤ nk') (h7 : a' 7 = m.1 1 7) (h86 : ∀ k, 86 ≤ k → a' k = m.1 1 k) : RR (gput x e_shX_shB_14 w') (gL (pA m a') 2 j v) := by
  obtain ⟨h1, h2, h3, h4, h5, h6⟩ := h
  refine ⟨h1, h2, h3, ?_, h5.congr (m' := gL (pA m a') 2 j v) rfl (fun k h8 _ => h86 k (by omega)) (fun k hk _ => gL_ne _ _ _ _ (by omega)), h6⟩
  obtain ⟨nc0, nr0, nk0, nl0, q1, q2, q3⟩ := h4
  have e1 : nc0 = nc := by
    have e := q2.n0.symm.trans hi.n0
    have := q2.cnt
    have := hi.cnt
    exact (nI_eq (by omega) (by omega)).mp e
  have e2 : nk0 = nk := by
    have e := q2.n2.symm.trans hi.n2
    have := q2.cnt
    have := hi.cnt
    exact (nI_eq (by omega) (by omega)).mp e
  subst e1 e2
  have q4 : Pq (gsub x e_shX_shP_40) a' nk' nc0 := q3.congr hk ⟨rfl, rfl⟩ (fun _ _ _ _ _ => rfl) h7 (fun k h8 _ => h86 k h8)
  have q5 : Bq w' a' ((gL (pA m a') 2 j v).2 2) nc0 nr' nk' nl' := by
    rw [gL_row]
    exact hb'
  exact ⟨nc0, nr', nk', nl', q5, hi', q4⟩
theorem s_hire (h : RR x m) (u : Int32) : Sm (F_X10_hire u x) (F_X11_hire u m) := by
  obtain ⟨nc, nr, nk, nl, hb, hi⟩ := h.bnk
  have hn := hi.cnt
  unfold F_X10_hire F_X11_hire
  rw [x_hasCorner hb hi, m_isCorner hi]
  simp only [F_X10_answer, F_X10_refuse, F_X10_answerOrRefuse, F_X10_grant, F_X10_deny, F_X11_gives, F_X11_refuse, F_X11_orNone, F_X11_is, Option.bind_some, ite01]
  by_cases hu : gin u nc
  · obtain ⟨s, hs, rfl⟩ := gin_of hu (by omega)
    rw [if_pos hu, if_pos hu, show x.1 14 5 = nI nk from hb.n2, hi.n2]
    by_cases hk6 : nk < 6
    · rw [if_pos (nI_ltL (by omega) (by omega)), if_neg (nI_neL (by omega) (by omega) (by omega)), x_sitter hb hi, m_sitter hi, Option.bind_some, Option.bind_some]
      by_cases hf : fi (fun k => m.1 1 (27 + 7 * k) = nI s) 0 nk = (-1 : Int32)
      · obtain ⟨w', e1, h2⟩ := x_addClerk hb hi hk6 nmR_0 (nI s)
        rw [if_pos hf, if_pos hf, show F_X0_addClerk (0 : Int64) (nI s) (gsub x e_shX_shB_14) = _ from e1, Option.bind_some, nI_1, gI_pA]
        have e0 : upd (m.1 1) 2 (nI (nk + 1)) = aHp (m.1 1) nk 0 := by
          funext j
          unfold aHp upd
          by_cases e3 : j = 2
          · rw [if_pos e3, if_pos e3]
          · rw [if_neg e3, if_neg e3, if_neg (by omega)]
        have e2 := m_hire_l (m := m) (a := m.1 1) (c := nk) hk6 (nI s) 7 FU 0 (by omega) (by have := FU_big; omega)
        rw [e0, show f_X11_hire_62 FU (nI s) (nI nk) (0 : Int32) (pA m (aHp (m.1 1) nk 0)) = _ from e2]
        exact Sm.fin (h.bankn (j := nk) (v := 0) hk6 hb hi h2 (hi.hire hk6 hs (fun k hk => sit_free hi hf k hk)) (by omega) (aHire_n (by omega) (by omega)) (fun k hk => aHire_n (by omega) (by omega))) _ _
      · rw [if_neg hf, if_neg hf]
        exact Sm.fin h _ _
    · rw [if_neg (nI_nltL (by omega) (by omega)), if_pos (show nI nk = (6 : Int32) by rw [show nk = 6 by omega]; rfl)]
      exact Sm.fin h _ _
  · rw [if_neg hu, if_neg hu]
    exact Sm.fin h _ _
end
