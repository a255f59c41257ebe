section
variable {x m w : GW} {a c16 c17 : Nat → Int32} {nc nr nk nl : Nat} {nm : Nat → Int64} {N : Nat}
/-- the plan is not touched by a life -/
theorem planL {wF : GW} (h : FN (gsub (gsub x e_shX_shL_126_14_40) e_shL_shP_16) (m.1 1) (m.2 2) nc nr nk wF a c17 N) {i : Nat} (hi : i < 8) (k : Nat) : (gsub (gput x e_shX_shL_126_14_40 wF) e_shX_shP_40).1 i k = (gsub x e_shX_shP_40).1 i k := by
  have h1 := h.2.1 i hi k
  show (match gfind e_shX_shL_126_14_40 (gix e_shX_shP_40 i) with | some j => wF.1 j k | none => x.1 (gix e_shX_shP_40 i) k) = x.1 (gix e_shX_shP_40 i) k
  rw [gixXP hi, gfXL hi]
  show wF.1 (16 + i) k = _
  rw [h1]
  show x.1 (gix e_shX_shL_126_14_40 (gix e_shL_shP_16 i)) k = _
  rw [gixLP hi, gixXL hi]
theorem live_RR (h : RR x m) (hi : Bi (m.1 1) nc nr nk nl) {wF mF : GW} {s' : Int32} (hF : FN (gsub (gsub x e_shX_shL_126_14_40) e_shL_shP_16) (m.1 1) (m.2 2) nc nr nk wF a c17 N) (hm : mF = gI (gI (gI (gI (gI (gI (mZ m a c16 c17 s' (nI N)) 18 0 (c17 0)) 18 1 (c17 1)) 18 2 (c17 2)) 18 3 (c17 3)) 18 4 (c17 4)) 0 38 (1 : Int32)) : RR (gI (gput x e_shX_shL_126_14_40 wF) 0 14 (1 : Int32)) mF := by
  obtain ⟨h1, h2, h3, h4, h5, h6⟩ := h
  subst hm
  obtain ⟨⟨nl', f1, f2⟩, f3, f4, f5, f6, f7, f8, f9, f10, f11, f12, f13⟩ := id hF
  obtain ⟨nc0, nr0, nk0, nl0, q1, q2, q3⟩ := h4
  have e1 : nc0 = nc := by
    have e := q2.n0.symm.trans hi.n0
    have := q2.cnt
    have := hi.cnt
    exact (nI_eq (by omega) (by omega)).mp e
  have e2 : nk0 = nk := by
    have e := q2.n2.symm.trans hi.n2
    have := q2.cnt
    have := hi.cnt
    exact (nI_eq (by omega) (by omega)).mp e
  subst e1 e2
  have q4 : Pq (gsub (gput x e_shX_shL_126_14_40 wF) e_shX_shP_40) a nk0 nc0 := q3.congr (Nat.le_refl _) ⟨planL hF (by omega) 0, planL hF (by omega) 1⟩ (fun i s hi1 hi2 _ => planL hF (by omega) s) f5 (fun k hk _ => f4 k hk)
  refine ⟨h1, h2, h3, ⟨nc0, nr, nk0, nl', f1, f2, q4⟩, h5.congr (m' := pA m a) rfl (fun k h8 _ => f4 k (by omega)) (fun _ _ _ => rfl), Or.inr ⟨rfl, rfl, f8, f9, f10, f11, f12, ?_⟩⟩
  show wF.1 0 5 = 0 ∨ wF.1 0 5 = 1
  rw [f12]
  exact f13
theorem Z_18 {a c16 c17 : Nat → Int32} {s n : Int32} {n1 : Nat} : f_X11_live_43 (n1 + 6) (nI 0) (mZ m a c16 c17 s n) = (F_X11_gives n (gI (gI (gI (gI (gI (gI (mZ m a c16 c17 s n) 18 0 (c17 0)) 18 1 (c17 1)) 18 2 (c17 2)) 18 3 (c17 3)) 18 4 (c17 4)) 0 38 (1 : Int32))).bind fun q8 => some (q8.1, q8.2) := by
  have st : ∀ (k i : Nat) (W : GW), i < 5 → f_X11_live_43 (k + 1) (nI i) W = f_X11_live_43 k (nI (i + 1)) (gI W 18 i (W.1 17 i)) := by
    intro k i W hi
    show b_X11_live_43 _ (nI i) W = _
    unfold b_X11_live_43
    rw [if_neg (nI_geL (by show i < 5; omega) (by omega)), if_pos (gin_nI (by omega) (by omega)), nI_clamp (by omega), nI_1]
  rw [st _ _ _ (by omega), st _ _ _ (by omega), st _ _ _ (by omega), st _ _ _ (by omega), st _ _ _ (by omega)]
  show b_X11_live_43 _ (5 : Int32) _ = _
  unfold b_X11_live_43
  rw [if_pos (by decide)]
  have e : (gI (gI (gI (gI (gI (mZ m a c16 c17 s n) 18 0 (c17 0)) 18 1 (c17 1)) 18 2 (c17 2)) 18 3 (c17 3)) 18 4 (c17 4)).1 0 34 = n := Z_34 (m := m) (a := a) (c16 := c16) (c17 := c17) (s := s) (n := n)
  show (F_X11_gives ((gI (gI (gI (gI (gI (mZ m a c16 c17 s n) 18 0 (c17 0)) 18 1 (c17 1)) 18 2 (c17 2)) 18 3 (c17 3)) 18 4 (c17 4)).1 0 34) _).bind _ = _
  rw [e]
  rfl
theorem s_live (h : RR x m) (u : Int32) : Sm (F_X10_live u x) (F_X11_live u m) := by
  obtain ⟨nc, nr, nk, nl, hb, hi, hp⟩ := h.2.2.2.1
  unfold F_X10_live F_X11_live
  rw [show F_X10_between u (0 : Int32) (9999 : Int32) = some (if btw u 0 9999 then 1 else 0) from x_btw u 0 9999, show F_X11_isFrom u.toInt64 (0 : Int64) (9999 : Int64) = some (if btw u 0 9999 then 1 else 0) from m_from u (p := 0) (q := 9999) (by omega) (by omega)]
  simp only [F_X10_answer, F_X10_refuse, F_X10_answerOrRefuse, F_X10_grant, F_X10_deny, F_X11_gives, F_X11_refuse, F_X11_orNone, F_X11_is, Option.bind_some, ite01]
  by_cases hu : btw u 0 9999
  · obtain ⟨S, _, hS, rfl⟩ := btw_of hu (by omega) (by omega)
    rw [if_pos hu, if_pos hu]
    rcases id hp with ⟨p0, p7⟩ | ⟨p0, M, p7, _⟩
    · rw [if_pos (show x.1 40 0 = 0 from p0), if_pos p7]
      exact Sm.fin h _ _
    · have p8 : ¬ m.1 1 7 = (-1 : Int32) := by rw [p7]; intro e; exact absurd p0 (fun _ => by
        obtain ⟨M2, q1, q2, _⟩ := (by rcases hp with ⟨z, _⟩ | ⟨_, z⟩; exact absurd (z.symm.trans p0) (by decide); exact z : ∃ M, m.1 1 7 = nI M ∧ Pr (gsub x e_shX_shP_40) (m.1 1) nk nc M ∧ (gsub x e_shX_shP_40).1 0 1 = nI (rkN (rK (m.1 1)) M) ∧ skN (rK (m.1 1)) M = [])
        have := q2.bound
        rw [← p7, q1] at e
        exact nI_nm (by omega) e)
      rw [if_neg (show ¬ x.1 40 0 = 0 by rw [show x.1 40 0 = 1 from p0]; exact one_ne), if_neg p8]
      have hb2 : Bq (gsub (gsub x e_shX_shL_126_14_40) e_shL_shB_3) (m.1 1) (m.2 2) nc nr nk nl := hb
      have hp2 : Pq (gsub (gsub x e_shX_shL_126_14_40) e_shL_shP_16) (m.1 1) nk nc := hp
      obtain ⟨wF, a', c16', c17', s', N', k1, k2, k3⟩ := life_both (m := m) hb2 hi hp2 p8 (S := S) (by omega)
      rw [pA_id] at k2
      rw [k1, k2, Option.bind_some, Option.bind_some]
      have e2 := Z_18 (m := m) (a := a') (c16 := c16') (c17 := c17') (s := s') (n := nI N') (n1 := FU - 6)
      rw [show FU - 6 + 6 = FU by have := FU_big; omega] at e2
      rw [show f_X11_live_43 FU 0 (mZ m a' c16' c17' s' (nI N')) = _ from e2, show wF.1 0 0 = nI N' from k3.2.2.2.2.1]
      exact Sm.fin (live_RR h hi k3 rfl) _ _
  · rw [if_neg hu, if_neg hu]
    exact Sm.fin h _ _
end
