section
variable {x m w : GW} {a c16 c17 : Nat → Int32} {nc nr nk nl : Nat} {nm : Nat → Int64} {N : Nat}
theorem gsBB {i : Nat} (hi : i < 8) (w' : GW) (k : Nat) : (gsub (gput x e_shX_shBB_27_14 w') e_shX_shP_40).1 i k = (gsub x e_shX_shP_40).1 i k := by
  show (match gfind e_shX_shBB_27_14 (gix e_shX_shP_40 i) with | some j => w'.1 j k | none => x.1 (gix e_shX_shP_40 i) k) = x.1 (gix e_shX_shP_40 i) k
  rw [gixXP hi, gfBB hi]
theorem planS {wF : GW} {A : Nat → Int32} (h : FN (gsub (gsub x e_shX_shL_129_27_40) e_shL_shP_16) A nm nc nr nk wF a c17 N) {i : Nat} (hi : i < 8) (k : Nat) : (gsub (gput x e_shX_shL_129_27_40 wF) e_shX_shP_40).1 i k = (gsub x e_shX_shP_40).1 i k := by
  have h1 := h.2.1 i hi k
  show (match gfind e_shX_shL_129_27_40 (gix e_shX_shP_40 i) with | some j => wF.1 j k | none => x.1 (gix e_shX_shP_40 i) k) = x.1 (gix e_shX_shP_40 i) k
  rw [gixXP hi, gfXS hi]
  show wF.1 (16 + i) k = _
  rw [h1]
  show x.1 (gix e_shX_shL_129_27_40 (gix e_shL_shP_16 i)) k = _
  rw [gixLP hi, gixXS hi]
theorem mean_RR (h : RR x m) {wF : GW} {A : Nat → Int32} (hF : FN (gsub (gsub x e_shX_shL_129_27_40) e_shL_shP_16) A nm nc nr nk wF a c17 N) : RR (gput x e_shX_shL_129_27_40 wF) m := by
  obtain ⟨h1, h2, h3, h4, h5, h6⟩ := h
  obtain ⟨nc0, nr0, nk0, nl0, q1, q2, q3⟩ := h4
  have q4 : Pq (gsub (gput x e_shX_shL_129_27_40 wF) e_shX_shP_40) (m.1 1) nk0 nc0 := q3.congr (Nat.le_refl _) ⟨planS hF (by omega) 0, planS hF (by omega) 1⟩ (fun i s hi1 hi2 _ => planS hF (by omega) s) rfl (fun k hk _ => rfl)
  exact ⟨h1, h2, h3, ⟨nc0, nr0, nk0, nl0, q1, q2, q4⟩, h5, h6⟩
theorem RR.ups (h : RR x m) (c16 c17 : Nat → Int32) (s n : Int32) : RR x (mZ m (m.1 1) c16 c17 s n) := by
  have h2 : RR x (pA m (m.1 1)) := by rw [pA_id]; exact h
  exact ⟨h2.1, h2.2.1, h2.2.2.1, h2.2.2.2.1, h2.2.2.2.2.1, h2.2.2.2.2.2⟩
theorem mean_l {K : Nat → Int32} (hK : ∀ b : Nat → Int32, (∀ k, 86 ≤ k → b k = K k) → aRp b 86 = K) (h7 : K 7 ≠ (-1 : Int32)) {S c : Nat} (hc0 : 0 < c) (hc : c ≤ 20) (hS : S ≤ 9999) : ∀ j n1 n2 i T (x m : GW), RR x m → m.1 1 = K → i + j = c → T ≤ 600 * i → j < n1 → j < n2 → Sm (f_X10_mean_60 n1 (nI S) (nI c) (lN T) (nI i) x) (f_X11_mean_68 n2 (nI S) (nI c) (lN T) (nI i) m) := by
  intro j
  induction j with
  | zero =>
    intro n1 n2 i T x m h hm hi hT hn1 hn2
    obtain ⟨n1, rfl⟩ := fu_pos hn1
    obtain ⟨n2, rfl⟩ := fu_pos hn2
    show Sm (b_X10_mean_60 _ (nI S) (nI c) (lN T) (nI i) x) (b_X11_mean_68 _ (nI S) (nI c) (lN T) (nI i) m)
    unfold b_X10_mean_60 b_X11_mean_68
    rw [if_pos (nI_le (by omega) (by omega)), if_pos (nI_le (by omega) (by omega)), nI_l (by omega)]
    exact (frac_both h (by omega) (by omega) hc0).boo (frac_bool (by omega) (by omega) hc0)
  | succ j ih =>
    intro n1 n2 i T x m h hm hi hT hn1 hn2
    obtain ⟨n1, rfl⟩ := fu_pos hn1
    obtain ⟨n2, rfl⟩ := fu_pos hn2
    show Sm (b_X10_mean_60 _ (nI S) (nI c) (lN T) (nI i) x) (b_X11_mean_68 _ (nI S) (nI c) (lN T) (nI i) m)
    unfold b_X10_mean_60 b_X11_mean_68
    obtain ⟨nc, nr, nk, nl, hb, hbi, hp⟩ := h.2.2.2.1
    have hn := hbi.cnt
    have hsp := spare_bank (m := m) hb hbi
    have hb2 : Bq (gsub (gsub (gput x e_shX_shBB_27_14 (cpB (gsub x e_shX_shBB_27_14))) e_shX_shL_129_27_40) e_shL_shB_3) (m.1 1) (m.2 2) nc nr nk nl := hsp
    have hp2 : Pq (gsub (gsub (gput x e_shX_shBB_27_14 (cpB (gsub x e_shX_shBB_27_14))) e_shX_shL_129_27_40) e_shL_shP_16) (m.1 1) nk nc := hp
    obtain ⟨wF, a', c16', c17', s', N', k1, k2, k3⟩ := life_both (m := m) hb2 hbi hp2 (by rw [hm]; exact h7) (S := S + i) (by omega)
    rw [pA_id] at k2
    obtain ⟨⟨nl', g1, g2⟩, g3, g4, _⟩ := id k3
    obtain ⟨G, hG, eG, _⟩ := sTot_grey g2
    have hg : Bq (gsub (gput (gput x e_shX_shBB_27_14 (cpB (gsub x e_shX_shBB_27_14))) e_shX_shL_129_27_40 wF) e_shX_shB_27) a' (m.2 2) nc nr nk nl' := g1
    have eR : F_X11_restores (mZ m a' c16' c17' s' (nI N')) = some (mZ m (m.1 1) c16' c17' s' (nI N')) := by
      have := m_restores (m := gU m c16' c17' s' (nI N')) (a := a')
      rw [hK a' (fun k hk => (g4 k hk).trans (by rw [hm])), ← hm] at this
      exact this
    rw [if_neg (nI_ge (by omega) (by omega)), if_neg (nI_ge (by omega) (by omega)), nI_add, x_copyB, Option.bind_some, k1, k2, Option.bind_some, Option.bind_some, x_grey_all hg g2, Option.bind_some, show F_X11_together (mZ m a' c16' c17' s' (nI N')) (2 : Int32) = _ from m_together (m := mZ m a' c16' c17' s' (nI N')) g2 (j := 2) (by omega), Option.bind_some, eR, Option.bind_some, Z_1, eG, nI_l (by omega), lN_add, nI_1]
    exact ih n1 n2 (i + 1) (T + G) _ _ ((mean_RR h.spare2 k3).ups _ _ _ _) hm (by omega) (by omega) (by omega) (by omega)
theorem mean_bool {K : Nat → Int32} {c : Nat} : ∀ (n2 : Nat) (u : Int32) (t : Int64) (v z : Int32) (m : GW) (q : Int32 × GW), f_X11_mean_68 n2 u z t v m = some q → q.1 = 0 ∨ q.1 = 1
  | 0, _, _, _, _, _, _, e => absurd e (by intro z; injection z)
  | n2 + 1, u, t, v, z, m, q, e => by
    have e2 : b_X11_mean_68 (f_X11_mean_68 n2) u z t v m = some q := e
    unfold b_X11_mean_68 at e2
    by_cases h : z ≤ v
    · rw [if_pos h] at e2
      cases h3 : F_X11_tellsBy t z.toInt64 m with
      | none => rw [h3] at e2; injection e2
      | some r =>
        rw [h3, Option.bind_some] at e2
        by_cases h4 : r.1 = 0 ∨ r.1 = 1
        · rw [if_pos h4] at e2
          injection e2 with e3
          rw [← e3]; exact h4
        · rw [if_neg h4] at e2; injection e2
    · rw [if_neg h] at e2
      cases h3 : F_X11_lives (u + v) m with
      | none => rw [h3] at e2; injection e2
      | some r =>
        rw [h3, Option.bind_some] at e2
        cases h4 : F_X11_together r (2 : Int32) with
        | none => rw [h4] at e2; injection e2
        | some r2 =>
          rw [h4, Option.bind_some] at e2
          cases h5 : F_X11_restores r with
          | none => rw [h5] at e2; injection e2
          | some r3 =>
            rw [h5, Option.bind_some] at e2
            exact mean_bool (K := K) (c := c) n2 u _ _ z _ q e2
theorem s_mean (h : RR x m) (u v : Int32) : Sm (F_X10_mean u v x) (F_X11_mean u v m) := by
  obtain ⟨nc, nr, nk, nl, hb, hi, hp⟩ := h.2.2.2.1
  have no : Sm (f_X10_mean_32 x) (f_X11_mean_35 m) := Sm.fin h 0 1
  unfold F_X10_mean F_X11_mean
  rw [show F_X10_between u (0 : Int32) (9999 : Int32) = some (if btw u 0 9999 then 1 else 0) from x_btw u 0 9999, show F_X11_isFrom u.toInt64 (0 : Int64) (9999 : Int64) = some (if btw u 0 9999 then 1 else 0) from m_from u (p := 0) (q := 9999) (by omega) (by omega), show F_X10_between v (1 : Int32) (20 : Int32) = some (if btw v 1 20 then 1 else 0) from x_btw v 1 20, show F_X11_isFrom v.toInt64 (1 : Int64) (20 : Int64) = some (if btw v 1 20 then 1 else 0) from m_from v (p := 1) (q := 20) (by omega) (by omega), Option.bind_some, Option.bind_some, ite01, ite01, Option.bind_some, Option.bind_some, ite01, ite01]
  by_cases hu : btw u 0 9999
  · obtain ⟨S, _, hS, rfl⟩ := btw_of hu (by omega) (by omega)
    rw [if_pos hu, if_pos hu]
    by_cases hv : btw v 1 20
    · obtain ⟨c, hc0, hc, rfl⟩ := btw_of hv (by omega) (by omega)
      rw [if_pos hv, if_pos hv, nI_add, show nI (S + c) - (1 : Int32) = nI (S + c - 1) from nI_sub (a := S + c) (b := 1) (by omega)]
      by_cases hl : nI (S + c - 1) ≤ (9999 : Int32)
      · rw [if_pos hl, if_pos hl]
        rcases hp with ⟨p0, p7⟩ | ⟨p0, M, p7, pP, _⟩
        · rw [if_pos (show x.1 40 0 = 0 from p0), if_pos p7]
          exact Sm.fin h 0 6
        · have p8 : ¬ m.1 1 7 = (-1 : Int32) := by
            have := pP.bound
            rw [p7]
            exact nI_nm (by omega)
          rw [if_neg (show ¬ x.1 40 0 = 0 by rw [show x.1 40 0 = 1 from p0]; exact one_ne), if_neg p8]
          have hk := m_keeps (m := m) (a := m.1 1)
          rw [pA_id] at hk
          rw [hk, Option.bind_some]
          have h3 : RR x (pA m (aKp (m.1 1) 86)) := h.row (fun k hk => aKp_lo (by omega))
          exact mean_l (K := aKp (m.1 1) 86) (fun b hb => aRp_back hb) (by rw [aKp_lo (by omega)]; exact p8) (S := S) (c := c) (by omega) hc hS c FU FU 0 0 x (pA m (aKp (m.1 1) 86)) h3 rfl (by omega) (by omega) (by have := FU_big; omega) (by have := FU_big; omega)
      · rw [if_neg hl, if_neg hl]
        exact no
    · rw [if_neg hv, if_neg hv]
      exact no
  · rw [if_neg hu, if_neg hu]
    exact no
end
