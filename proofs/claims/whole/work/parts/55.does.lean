/-! The public methods that do something to the bank. -/
theorem gput_self (w : GW) (is : List Nat) : gput w is (gsub w is) = w := by
  refine Prod.ext (funext fun i => funext fun k => ?_) (funext fun i => funext fun k => ?_)
  · show (match gfind is i with | some j => w.1 (gix is j) k | none => w.1 i k) = w.1 i k
    cases hf : gfind is i with
    | none => rfl
    | some j =>
      have := gfind_some hf
      show w.1 (gix is j) k = w.1 i k
      unfold gix
      rw [this]
      rfl
  · show (match gfind is i with | some j => w.2 (gix is j) k | none => w.2 i k) = w.2 i k
    cases hf : gfind is i with
    | none => rfl
    | some j =>
      have := gfind_some hf
      show w.2 (gix is j) k = w.2 i k
      unfold gix
      rw [this]
      rfl
theorem gix14 {i : Nat} (h : i < 13) : gix e_shX_shB_14 i = 14 + i := (by decide : ∀ j : Fin 13, gix e_shX_shB_14 j.val = 14 + j.val) ⟨i, h⟩
theorem gsub_gI14 (x : GW) {c : Nat} (k : Nat) (v : Int32) {i : Nat} (hi : i < 13) (l : Nat) : (gsub (gI x (14 + c) k v) e_shX_shB_14).1 i l = (gI (gsub x e_shX_shB_14) c k v).1 i l := by
  show (if gix e_shX_shB_14 i = 14 + c ∧ l = k then v else x.1 (gix e_shX_shB_14 i) l) = (if i = c ∧ l = k then v else x.1 (gix e_shX_shB_14 i) l)
  rw [gix14 hi]
  by_cases e : i = c ∧ l = k
  · rw [if_pos e, if_pos ⟨by rw [e.1], e.2⟩]
  · rw [if_neg e, if_neg (fun q => e ⟨by have := q.1; omega, q.2⟩)]
theorem gput_gI14 (x w' : GW) (k : Nat) (v : Int32) : gput (gI x 14 k v) e_shX_shB_14 w' = gput x e_shX_shB_14 w' := by
  refine Prod.ext (funext fun i => funext fun l => ?_) rfl
  show (match gfind e_shX_shB_14 i with | some j => w'.1 j l | none => (gI x 14 k v).1 i l) = (match gfind e_shX_shB_14 i with | some j => w'.1 j l | none => x.1 i l)
  cases hf : gfind e_shX_shB_14 i with
  | some j => rfl
  | none =>
    have : i ≠ 14 := fun e => by rw [e] at hf; exact absurd hf (by decide)
    exact gI_ne _ _ _ _ (by omega)
section
variable {x m : GW}
theorem RR.gI14 (h : RR x m) {c k : Nat} (hc : c < 13) {v : Int32} {a' : Nat → Int32} {nc nr nk nl nr' nl' : Nat} (hb : Bq (gsub x e_shX_shB_14) (m.1 1) (m.2 2) nc nr nk nl) (hi : Bi (m.1 1) nc nr nk nl) (hb' : Bq (gI (gsub x e_shX_shB_14) c k v) a' (m.2 2) nc nr' nk nl') (hi' : Bi a' nc nr' nk nl') (h7 : a' 7 = m.1 1 7) (h86 : ∀ k, 86 ≤ k → a' k = m.1 1 k) : RR (gI x (14 + c) k v) (pA m a') := by
  have hb2 : Bq (gsub (gI x (14 + c) k v) e_shX_shB_14) a' (m.2 2) nc nr' nk nl' := hb'.congr hi'.cnt (fun i l hi => gsub_gI14 x k v hi l) (fun _ => rfl) (fun _ _ => rfl)
  have q := h.bank hb hi hb2 hi' (Nat.le_refl _) h7 h86
  have e : gput x e_shX_shB_14 (gsub (gI x (14 + c) k v) e_shX_shB_14) = gI x (14 + c) k v := by
    refine (?_ : _ = gput (gI x (14 + c) k v) e_shX_shB_14 (gsub (gI x (14 + c) k v) e_shX_shB_14)).trans (gput_self _ _)
    refine Prod.ext (funext fun i => funext fun l => ?_) rfl
    show (match gfind e_shX_shB_14 i with | some j => _ | none => x.1 i l) = (match gfind e_shX_shB_14 i with | some j => _ | none => (gI x (14 + c) k v).1 i l)
    cases hf : gfind e_shX_shB_14 i with
    | some j => rfl
    | none =>
      have : i ≠ 14 + c := fun e => by
        rw [e] at hf
        exact absurd hf ((by decide : ∀ j : Fin 13, ¬ gfind e_shX_shB_14 (14 + j.val) = none) ⟨c, hc⟩)
      exact (gI_ne _ _ _ _ (by omega)).symm
  rw [e] at q
  exact q
theorem s_year (h : RR x m) (u : Int32) : Sm (F_X10_year u x) (F_X11_year u m) := by
  obtain ⟨nc, nr, nk, nl, hb, hi⟩ := h.bnk
  have hn := hi.cnt
  unfold F_X10_year F_X11_year F_X0_passYears
  rw [show F_X10_between u (1 : Int32) (99 : Int32) = some (if btw u 1 99 then 1 else 0) from x_btw u 1 99, show F_X11_isFrom u.toInt64 (1 : Int64) (99 : Int64) = some (if btw u 1 99 then 1 else 0) from m_from u (p := 1) (q := 99) (by omega) (by omega)]
  simp only [F_X10_answer, F_X10_refuse, F_X10_answerOrRefuse, F_X10_grant, F_X10_deny, F_X11_gives, F_X11_refuse, F_X11_orNone, F_X11_is, Option.bind_some, ite01]
  by_cases hu : btw u 1 99
  · obtain ⟨y, _, hy, rfl⟩ := btw_of hu (by omega) (by omega)
    rw [if_pos hu, if_pos hu, show (gsub x e_shX_shB_14).1 0 2 = m.1 1 6 from hb.year]
    by_cases hl : m.1 1 6 + nI y ≤ (9999 : Int32)
    · obtain ⟨w', e1, h1⟩ := x_years hb hi (y := y) (by omega)
      have e2 := m_years (m := m) hi (y := y) (by omega)
      rw [pA_id] at e2
      obtain ⟨r, hr, er⟩ := aYn_small hi y
      have hr2 : r ≤ 300 * 99 := by
        have h4 : 50 * nk * y ≤ 300 * 99 := Nat.mul_le_mul (by omega) hy
        omega
      rw [if_pos hl, if_pos hl, e1, e2, Option.bind_some, Option.bind_some]
      dsimp only
      rw [er, if_neg (nI_nm (by omega))]
      exact Sm.fin (h.bank hb hi h1 (Bi.yn (t := (0, m.1 1)) hi 0 y) (Nat.le_refl _) (aYn_keep (by omega) (by omega) 0 y _) (fun k hk => aYn_keep (by omega) (by omega) 0 y _)) _ _
    · rw [if_neg hl, if_neg hl, Option.bind_some, gput_self, if_pos rfl]
      exact Sm.fin h _ _
  · rw [if_neg hu, if_neg hu]
    exact Sm.fin h _ _
theorem aSit_keep (a : Nat → Int32) {c k : Nat} (hc : c < 6) (hk : k = 7 ∨ 86 ≤ k) (v : Int32) : aSit a c v k = a k := by
  unfold aSit
  rw [pk_un (by omega), pk_un (by omega), pk_un (by omega)]
theorem s_move (h : RR x m) (u v : Int32) : Sm (F_X10_move u v x) (F_X11_move u v m) := by
  obtain ⟨nc, nr, nk, nl, hb, hi⟩ := h.bnk
  have hn := hi.cnt
  unfold F_X10_move F_X11_move f_X10_move_22 f_X11_move_16
  rw [x_hasClerk hb hi, m_isClerk hi, x_hasCorner hb hi, m_isCorner hi]
  simp only [F_X10_answer, F_X10_refuse, F_X10_answerOrRefuse, F_X10_grant, F_X10_deny, F_X11_gives, F_X11_refuse, F_X11_orNone, F_X11_is, Option.bind_some, ite01]
  rw [if_and, if_and]
  by_cases hu : gin u nk ∧ gin v nc
  · obtain ⟨c, hc, rfl⟩ := gin_of hu.1 (by omega)
    obtain ⟨s, hs, rfl⟩ := gin_of hu.2 (by omega)
    have e2 := m_moves (m := m) hi (s := s) hc
    rw [pA_id] at e2
    rw [if_pos hu, if_pos hu, e2]
    by_cases hf : fi (fun k => m.1 1 (27 + 7 * k) = nI s) 0 nk = (-1 : Int32)
    · obtain ⟨w', e1, h1⟩ := x_seatElse hb hi hc hs hf
      rw [e1, if_pos hf, Option.bind_some, Option.bind_some]
      dsimp only
      have hi' := hi.sit hc hs (fun k hk _ => sit_free hi hf k hk)
      obtain ⟨g, hg, eg⟩ := hi'.grey hc
      rw [eg, if_neg (nI_nm (by omega)), if_neg one_ne, m_clerk2 (by omega), Option.bind_some, pA_1, eg]
      exact Sm.fin (h.bank hb hi h1 hi' (Nat.le_refl _) (aSit_keep _ (by omega) (by omega) _) (fun k hk => aSit_keep _ (by omega) (by omega) _)) _ _
    · rw [x_seatElse_no hb hi hc hs hf, if_neg hf, Option.bind_some, Option.bind_some, gput_self, if_pos rfl, if_pos zer_eq]
      exact Sm.fin h _ _
  · rw [if_neg hu, if_neg hu]
    exact Sm.fin h _ _
theorem aSw_keep (a : Nat → Int32) {c o k : Nat} (hc : c < 6) (ho : o < 6) (hk : k = 7 ∨ 86 ≤ k) : aSw a c o k = a k := by
  unfold aSw
  rw [aSit_keep _ ho hk, aSit_keep _ hc hk]
theorem s_swap (h : RR x m) (u v : Int32) : Sm (F_X10_swap u v x) (F_X11_swap u v m) := by
  obtain ⟨nc, nr, nk, nl, hb, hi⟩ := h.bnk
  have hn := hi.cnt
  unfold F_X10_swap F_X11_swap f_X11_swap_21
  rw [x_areTwo hb hi, m_isClerk hi, m_isClerk hi]
  simp only [F_X10_answer, F_X10_refuse, F_X10_answerOrRefuse, F_X10_grant, F_X10_deny, F_X11_gives, F_X11_refuse, F_X11_orNone, F_X11_is, Option.bind_some, ite01]
  by_cases hu : gin u nk
  · rw [if_pos hu]
    by_cases hv : gin v nk
    · rw [if_pos hv]
      by_cases e : u = v
      · rw [if_neg (show ¬ (gin u nk ∧ gin v nk ∧ u ≠ v) from fun q => q.2.2 e), if_pos e]
        exact Sm.fin h _ _
      · rw [if_pos (show gin u nk ∧ gin v nk ∧ u ≠ v from ⟨hu, hv, e⟩), if_neg e]
        obtain ⟨c, hc, rfl⟩ := gin_of hu (by omega)
        obtain ⟨o, ho, rfl⟩ := gin_of hv (by omega)
        have hne : c ≠ o := fun q => e (by rw [q])
        have e2 := m_swaps (m := m) hi hc ho hne
        rw [pA_id] at e2
        obtain ⟨w', e1, h1⟩ := x_exchange hb hi hc ho hne
        have hi' := hi.sw hc ho hne
        obtain ⟨g, hg, eg⟩ := hi'.grey hc
        obtain ⟨g2, hg2, eg2⟩ := hi'.grey ho
        rw [e1, e2, Option.bind_some, Option.bind_some]
        dsimp only
        rw [m_clerk2 (by omega), m_clerk2 (by omega), Option.bind_some, Option.bind_some, pA_1, eg, eg2, nI_add, if_neg (nI_nm (by omega))]
        exact Sm.fin (h.bank hb hi h1 hi' (Nat.le_refl _) (aSw_keep _ (by omega) (by omega) (by omega)) (fun k hk => aSw_keep _ (by omega) (by omega) (by omega))) _ _
    · rw [if_neg hv, if_neg (show ¬ (gin u nk ∧ gin v nk ∧ u ≠ v) from fun q => hv q.2.1)]
      exact Sm.fin h _ _
  · rw [if_neg hu, if_neg (show ¬ (gin u nk ∧ gin v nk ∧ u ≠ v) from fun q => hu q.1)]
    exact Sm.fin h _ _
theorem s_fan (h : RR x m) (u v : Int32) : Sm (F_X10_fan u v x) (F_X11_fan u v m) := by
  obtain ⟨nc, nr, nk, nl, hb, hi⟩ := h.bnk
  have hn := hi.cnt
  unfold F_X10_fan F_X11_fan f_X10_fan_21 f_X11_fan_20
  rw [x_hasClerk hb hi, m_isClerk hi, show F_X10_between v (1 : Int32) (50 : Int32) = some (if btw v 1 50 then 1 else 0) from x_btw v 1 50, show F_X11_isFrom v.toInt64 (1 : Int64) (50 : Int64) = some (if btw v 1 50 then 1 else 0) from m_from v (p := 1) (q := 50) (by omega) (by omega)]
  simp only [F_X10_answer, F_X10_refuse, F_X10_answerOrRefuse, F_X10_grant, F_X10_deny, F_X11_gives, F_X11_refuse, F_X11_orNone, F_X11_is, Option.bind_some, ite01]
  rw [if_and, if_and]
  by_cases hu : gin u nk ∧ btw v 1 50
  · obtain ⟨c, hc, rfl⟩ := gin_of hu.1 (by omega)
    obtain ⟨y, _, hy, rfl⟩ := btw_of hu.2 (by omega) (by omega)
    have e2 := m_fans (m := m) (a := m.1 1) (c := c) (by omega) (nI y)
    rw [pA_id] at e2
    rw [if_pos hu, if_pos hu, e2]
    by_cases hs : m.1 1 (27 + 7 * c + 3) = (99 : Int32)
    · rw [x_addSham_no hb hi hc _ hs, if_pos hs, Option.bind_some, Option.bind_some, gput_self, if_pos rfl, if_pos zer_eq]
      exact Sm.fin h _ _
    · obtain ⟨w', e1, h1⟩ := x_addSham hb hi hc (nI y) hs
      have hi' := hi.fan hc (x := y) (by omega)
      obtain ⟨g, hg, eg⟩ := hi'.sham hc
      rw [e1, if_neg hs, Option.bind_some, Option.bind_some]
      dsimp only
      rw [m_clerk3 (by omega), Option.bind_some, pA_1, eg, if_neg (nI_nm (by omega)), if_neg one_ne]
      exact Sm.fin (h.bank hb hi h1 hi' (Nat.le_refl _) (pk_un (by omega)) (fun k hk => pk_un (by omega))) _ _
  · rw [if_neg hu, if_neg hu]
    exact Sm.fin h _ _
theorem s_dust (h : RR x m) (u : Int32) : Sm (F_X10_dust u x) (F_X11_dust u m) := by
  obtain ⟨nc, nr, nk, nl, hb, hi⟩ := h.bnk
  have hn := hi.cnt
  unfold F_X10_dust F_X11_dust
  rw [x_hasClerk hb hi, m_isClerk hi]
  simp only [F_X10_answer, F_X10_refuse, F_X10_answerOrRefuse, F_X10_grant, F_X10_deny, F_X11_gives, F_X11_refuse, F_X11_orNone, F_X11_is, Option.bind_some, ite01]
  by_cases hu : gin u nk
  · obtain ⟨c, hc, rfl⟩ := gin_of hu (by omega)
    have e2 := m_cleans1 (m := m) (a := m.1 1) (c := c) (by omega)
    rw [pA_id] at e2
    obtain ⟨w', e1, h1⟩ := x_wipe hb hi hc
    obtain ⟨g, hg, eg⟩ := hi.sham hc
    obtain ⟨g2, hg2, eg2⟩ := hi.grey hc
    rw [if_pos hu, if_pos hu, e1, e2, Option.bind_some, Option.bind_some]
    dsimp only
    by_cases hz : m.1 1 (27 + 7 * c + 3) + m.1 1 (27 + 7 * c + 2) = 0
    · rw [if_pos hz, if_pos hz, gput_self, if_pos rfl]
      have e3 : pA m (aDst (m.1 1) c) = m := by
        have : aDst (m.1 1) c = m.1 1 := by
          rw [eg, eg2, nI_add] at hz
          have hz2 : g + g2 = 0 := (nI_eq (b := 0) (by omega) (by omega)).mp hz
          funext k
          unfold aDst
          by_cases k1 : k = 27 + 7 * c + 2
          · rw [k1, pk_us, eg2, show g2 = 0 by omega]; rfl
          · by_cases k2 : k = 27 + 7 * c + 3
            · rw [k2, pk_un (by omega), pk_us, eg, show g = 0 by omega]; rfl
            · rw [pk_un k1, pk_un k2]
        rw [this, pA_id]
      rw [e3]
      exact Sm.fin h _ _
    · rw [if_neg hz, if_neg hz]
      dsimp only
      rw [eg, eg2, nI_add, if_neg (nI_nm (by omega))]
      exact Sm.fin (h.bank hb hi h1 (hi.dst hc) (Nat.le_refl _) (by unfold aDst; rw [pk_un (by omega), pk_un (by omega)]) (fun k hk => by unfold aDst; rw [pk_un (by omega), pk_un (by omega)])) _ _
  · rw [if_neg hu, if_neg hu]
    exact Sm.fin h _ _
theorem s_look (h : RR x m) (u : Int32) : Sm (F_X10_look u x) (F_X11_look u m) := by
  obtain ⟨nc, nr, nk, nl, hb, hi⟩ := h.bnk
  have hn := hi.cnt
  unfold F_X10_look F_X11_look
  rw [x_hasClerk hb hi, m_isClerk hi]
  simp only [F_X10_answer, F_X10_refuse, F_X10_answerOrRefuse, F_X10_grant, F_X10_deny, F_X11_gives, F_X11_refuse, F_X11_orNone, F_X11_is, Option.bind_some, ite01]
  by_cases hu : gin u nk
  · obtain ⟨c, hc, rfl⟩ := gin_of hu (by omega)
    have e2 := m_cleans0 (m := m) (a := m.1 1) (c := c) (by omega)
    rw [pA_id] at e2
    obtain ⟨w', e1, h1⟩ := x_expose hb hi hc
    obtain ⟨g, hg, eg⟩ := hi.sham hc
    rw [if_pos hu, if_pos hu, e1, e2, Option.bind_some, Option.bind_some]
    dsimp only
    by_cases hz : m.1 1 (27 + 7 * c + 3) = 0
    · rw [if_pos hz, if_pos hz, gput_self, if_pos rfl]
      have e3 : pA m (aCln (m.1 1) c) = m := by
        have : aCln (m.1 1) c = m.1 1 := by
          funext k
          unfold aCln
          by_cases k2 : k = 27 + 7 * c + 3
          · rw [k2, pk_us, hz]
          · rw [pk_un k2]
        rw [this, pA_id]
      rw [e3]
      exact Sm.fin h _ _
    · rw [if_neg hz, if_neg hz]
      dsimp only
      rw [eg, if_neg (nI_nm (by omega))]
      exact Sm.fin (h.bank hb hi h1 (hi.cln hc) (Nat.le_refl _) (pk_un (by omega)) (fun k hk => pk_un (by omega))) _ _
  · rw [if_neg hu, if_neg hu]
    exact Sm.fin h _ _
theorem s_run (h : RR x m) : Sm (F_X10_run x) (F_X11_run m) := by
  obtain ⟨nc, nr, nk, nl, hb, hi⟩ := h.bnk
  have hn := hi.cnt
  have h8 := p256 hn.2.2.2
  have hs := sCo_small (m.1 1) nl 0
  unfold F_X10_run F_X11_run
  rw [show (0 : Int32) = nI 0 from rfl, m_coming hi (Nat.two_pow_pos nl)]
  simp only [F_X10_answer, F_X10_refuse, F_X10_answerOrRefuse, F_X10_grant, F_X10_deny, F_X11_gives, F_X11_refuse, F_X11_orNone, F_X11_is, Option.bind_some, ite01]
  by_cases hS : sCo (m.1 1) nl 0 = 0
  · rw [x_payComing_no hb hi hS, hS, if_pos rfl, Option.bind_some, gput_self, if_pos rfl]
    exact Sm.fin h _ _
  · obtain ⟨w', e1, h1, hi1⟩ := x_payComing hb hi hS
    have e2 := m_pays (m := m) hi hs
    rw [pA_id] at e2
    obtain ⟨r, hr, er⟩ := sPay_small hi (sCo (m.1 1) nl 0)
    rw [e1, if_neg (fun e => hS ((nI_eq (by omega) (by omega)).mp e)), e2, Option.bind_some, Option.bind_some]
    dsimp only
    rw [er, if_neg (nI_nm (by omega))]
    exact Sm.fin (h.bank hb hi h1 hi1 (Nat.le_refl _) (sPay_keep hi _ (by omega)) (fun k hk => sPay_keep hi _ (by omega))) _ _
theorem s_calm (h : RR x m) (u v : Int32) : Sm (F_X10_calm u v x) (F_X11_calm u v m) := by
  obtain ⟨nc, nr, nk, nl, hb, hi⟩ := h.bnk
  have hn := hi.cnt
  unfold F_X10_calm F_X11_calm f_X10_calm_21 f_X11_calm_20
  rw [x_hasCorner hb hi, m_isCorner hi, show F_X10_between v (0 : Int32) (9 : Int32) = some (if btw v 0 9 then 1 else 0) from x_btw v 0 9, show F_X11_isFrom v.toInt64 (0 : Int64) (9 : Int64) = some (if btw v 0 9 then 1 else 0) from m_from v (p := 0) (q := 9) (by omega) (by omega)]
  simp only [F_X10_answer, F_X10_refuse, F_X10_answerOrRefuse, F_X10_grant, F_X10_deny, F_X11_gives, F_X11_refuse, F_X11_orNone, F_X11_is, Option.bind_some, ite01]
  rw [if_and, if_and]
  by_cases hu : gin u nc ∧ btw v 0 9
  · obtain ⟨c, hc, rfl⟩ := gin_of hu.1 (by omega)
    obtain ⟨y, _, hy, rfl⟩ := btw_of hu.2 (by omega) (by omega)
    rw [if_pos hu, if_pos hu, if_pos (gin_nI (by omega) (by omega)), nI_clamp (by omega), m_stillOf (by omega), Option.bind_some, nq_Ladd, if_pos (gin_nI (by show 10 + c < 2356; omega) (by omega)), nI_clamp (n := 10 + c) (by omega), gI_pA, show x.1 15 c = m.1 1 (10 + c) from hb.still hc]
    have q := h.gI14 (c := 1) (k := c) (v := nI y) (by omega) hb hi (hb.set_still hn hc (nI y)) (hi.set_still hc ⟨y, hy, rfl⟩) (pk_un (by omega)) (fun k hk => pk_un (by omega))
    exact Sm.fin q _ _
  · rw [if_neg hu, if_neg hu]
    exact Sm.fin h _ _
theorem s_rule (h : RR x m) (u v : Int32) : Sm (F_X10_rule u v x) (F_X11_rule u v m) := by
  obtain ⟨nc, nr, nk, nl, hb, hi⟩ := h.bnk
  have hn := hi.cnt
  have no : Sm (f_X10_rule_57 x) (f_X11_rule_33 m) := Sm.fin h 0 1
  unfold F_X10_rule F_X11_rule f_X10_rule_28 f_X11_rule_27
  by_cases h4 : u = (4 : Int32)
  · subst h4
    rw [if_pos rfl, if_neg (show ¬ (4 : Int32) < 4 by decide), if_neg (show ¬ (5 : Int32) < 4 by decide), if_pos rfl, show F_X10_between v (0 : Int32) (16 : Int32) = some (if btw v 0 16 then 1 else 0) from x_btw v 0 16, show F_X11_isFrom v.toInt64 (0 : Int64) (16 : Int64) = some (if btw v 0 16 then 1 else 0) from m_from v (p := 0) (q := 16) (by omega) (by omega), Option.bind_some, Option.bind_some, ite01, ite01]
    by_cases hv : btw v 0 16
    · obtain ⟨y, _, hy, rfl⟩ := btw_of hv (by omega) (by omega)
      rw [if_pos hv, if_pos hv, if_pos (show gin (4 : Int32) 2356 by decide), gI_pA]
      have q := h.gI14 (c := 0) (k := 0) (v := nI y) (by omega) hb hi (hb.set_odds hn (nI y)) (hi.set_odds ⟨y, hy, rfl⟩) (pk_un (by omega)) (fun k hk => pk_un (by omega))
      exact Sm.fin q 1 0
    · rw [if_neg hv, if_neg hv, if_neg (show ¬ (4 : Int32) = 5 by decide)]
      exact no
  · rw [if_neg h4]
    by_cases h5 : u = (5 : Int32)
    · subst h5
      rw [if_pos rfl, if_neg (show ¬ (5 : Int32) < 4 by decide), if_neg (show ¬ (5 : Int32) < 5 by decide), if_neg (show ¬ (5 : Int32) = 4 by decide), show F_X10_between v (0 : Int32) (9999 : Int32) = some (if btw v 0 9999 then 1 else 0) from x_btw v 0 9999, show F_X11_isFrom v.toInt64 (0 : Int64) (9999 : Int64) = some (if btw v 0 9999 then 1 else 0) from m_from v (p := 0) (q := 9999) (by omega) (by omega), Option.bind_some, Option.bind_some, ite01, ite01]
      by_cases hv : btw v 0 9999
      · obtain ⟨y, _, hy, rfl⟩ := btw_of hv (by omega) (by omega)
        rw [if_pos hv, if_pos hv, if_pos (show gin (5 : Int32) 2356 by decide), gI_pA]
        have q := h.gI14 (c := 0) (k := 1) (v := nI y) (by omega) hb hi (hb.set_cash hn (nI y)) (hi.set_cash ⟨y, hy, rfl⟩) (pk_un (by omega)) (fun k hk => pk_un (by omega))
        exact Sm.fin q 1 0
      · rw [if_neg hv, if_neg hv]
        exact no
    · rw [if_neg h5]
      by_cases h6 : u < (4 : Int32)
      · rw [if_pos h6]; exact no
      · rw [if_neg h6]
        by_cases h7 : (5 : Int32) < u
        · rw [if_pos h7]; exact no
        · exfalso
          obtain ⟨j, hj1, hj2, rfl⟩ := btw_of (x := u) (p := 4) (q := 5) ⟨h6, h7⟩ (by omega) (by omega)
          have : j = 4 ∨ j = 5 := by omega
          rcases this with rfl | rfl
          · exact h4 rfl
          · exact h5 rfl
end
