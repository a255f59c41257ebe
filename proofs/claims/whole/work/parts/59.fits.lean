/-! Pour, the grey of all to a tray. -/
theorem sub_ltI {a b c : Nat} (ha : a < 2147483648) (hb : b < 2147483648) (hc : c < 2147483648) : (nI a - nI b < nI c) = (a < b + c) := by
  apply propext
  have e : (nI a - nI b).toInt = (a : Int) - b := by
    rw [Int32.toInt_sub, nI_toInt ha, nI_toInt hb]
    exact Int.bmod_eq_of_le (by omega) (by omega)
  rw [Int32.lt_iff_toInt_lt, e, nI_toInt hc]
  omega
theorem le_subI {a b c : Nat} (ha : a < 2147483648) (hb : b < 2147483648) (hc : c < 2147483648) : (nI c ≤ nI a - nI b) = (b + c ≤ a) := by
  apply propext
  rw [← Int32.not_lt, sub_ltI ha hb hc]
  omega
section
variable {x m u : GW}
theorem x_areAlike {f t : Nat} (hf : f < 4) (ht : t < 4) : F_X9_areAlike u (nI f) (nI t) = some (if u.1 6 f = u.1 6 t then 1 else 0) := by
  unfold F_X9_areAlike
  rw [x_isTray, x_isTray, if_pos (gin_nI hf (by omega)), if_pos (gin_nI ht (by omega)), Option.bind_some, Option.bind_some, if_neg one_ne, if_neg one_ne, if_pos (gin_nI hf (by omega)), if_pos (gin_nI ht (by omega)), nI_clamp (n := f) (by omega), nI_clamp (n := t) (by omega)]
  split <;> rfl
/-- the numbers of many places copied, i of them (from the first, or the last) -/
def pvF (g : Nat → Int64) (S D i : Nat) : Nat → Int64 := fun k => if D ≤ k ∧ k < D + i then g (S + (k - D)) else g k
def pvB (g : Nat → Int64) (S D c i : Nat) : Nat → Int64 := fun k => if D + (c - i) ≤ k ∧ k < D + c then g (S + (k - D)) else g k
theorem m_pour_l {f t i j c : Nat} (hf : f < 4) (ht : t < 4) (hi : i + c ≤ 60) (hj : j + c ≤ 60) {a b : Nat → Int32} {g : Nat → Int64} : ∀ k n y, y + k = c → k < n → f_X11_pour_118 n (nI f) (nI i) (nI t) (nI j) (nI c) (nI y) (pT m a b (if j ≤ i then pvF g (60 * f + i) (60 * t + j) y else pvB g (60 * f + i) (60 * t + j) c y)) = some (1, gI (pT m a b (pvF g (60 * f + i) (60 * t + j) c)) 0 2 0) := by
  intro k
  induction k with
  | zero =>
    intro n y e h1
    obtain ⟨n, rfl⟩ := fu_pos h1
    show b_X11_pour_118 _ (nI f) (nI i) (nI t) (nI j) (nI c) (nI y) _ = _
    unfold b_X11_pour_118
    rw [if_pos (nI_le (by omega) (by omega)), show y = c by omega]
    have e2 : (if j ≤ i then pvF g (60 * f + i) (60 * t + j) c else pvB g (60 * f + i) (60 * t + j) c c) = pvF g (60 * f + i) (60 * t + j) c := by
      split
      · rfl
      · unfold pvF pvB
        rw [Nat.sub_self, Nat.add_zero]
    rw [e2]
    rfl
  | succ k ih =>
    intro n y e h1
    obtain ⟨n, rfl⟩ := fu_pos h1
    show b_X11_pour_118 _ (nI f) (nI i) (nI t) (nI j) (nI c) (nI y) _ = _
    unfold b_X11_pour_118 f_X11_pour_143
    rw [if_neg (nI_ge (by omega) (by omega)), nq_Lmul, nq_Lmul, nI_add, nI_add, nI_add, nI_add, nI_1]
    by_cases hd : j ≤ i
    · have q := ih n (y + 1) (by omega) (by omega)
      rw [if_pos hd] at q
      rw [if_pos (nI_le hd (by omega)), if_pos hd, if_pos (gin_nI (by show 60 * f + i + y < 240; omega) (by omega)), if_pos (gin_nI (by show 60 * t + j + y < 240; omega) (by omega)), nI_clamp (n := 60 * f + i + y) (by omega), nI_clamp (n := 60 * t + j + y) (by omega), gL_pT, ← q]
      congr 2
      funext z
      show (if z = 60 * t + j + y then pvF g (60 * f + i) (60 * t + j) y (60 * f + i + y) else pvF g (60 * f + i) (60 * t + j) y z) = pvF g (60 * f + i) (60 * t + j) (y + 1) z
      unfold pvF
      by_cases e1 : z = 60 * t + j + y
      · rw [if_pos e1, if_neg (by omega), if_pos (by omega), show 60 * f + i + (z - (60 * t + j)) = 60 * f + i + y by omega]
      · rw [if_neg e1]
        by_cases e2 : 60 * t + j ≤ z ∧ z < 60 * t + j + y
        · rw [if_pos e2, if_pos (by omega)]
        · rw [if_neg e2, if_neg (by omega)]
    · have q := ih n (y + 1) (by omega) (by omega)
      rw [if_neg hd] at q
      have es : nI c - (1 : Int32) - nI y = nI (c - 1 - y) := by
        rw [show nI c - (1 : Int32) = nI (c - 1) from nI_sub (b := 1) (by omega), nI_sub (by omega)]
      rw [if_neg (nI_ge (Nat.lt_of_not_le hd) (by omega)), if_neg hd, es, nI_add, nI_add, if_pos (gin_nI (by show 60 * f + i + (c - 1 - y) < 240; omega) (by omega)), if_pos (gin_nI (by show 60 * t + j + (c - 1 - y) < 240; omega) (by omega)), nI_clamp (n := 60 * f + i + (c - 1 - y)) (by omega), nI_clamp (n := 60 * t + j + (c - 1 - y)) (by omega), gL_pT, ← q]
      congr 2
      funext z
      show (if z = 60 * t + j + (c - 1 - y) then pvB g (60 * f + i) (60 * t + j) c y (60 * f + i + (c - 1 - y)) else pvB g (60 * f + i) (60 * t + j) c y z) = pvB g (60 * f + i) (60 * t + j) c (y + 1) z
      unfold pvB
      by_cases e1 : z = 60 * t + j + (c - 1 - y)
      · rw [if_pos e1, if_neg (by omega), if_pos (by omega), show 60 * f + i + (z - (60 * t + j)) = 60 * f + i + (c - 1 - y) by omega]
      · rw [if_neg e1]
        by_cases e2 : 60 * t + j + (c - y) ≤ z ∧ z < 60 * t + j + c
        · rw [if_pos e2, if_pos (by omega)]
        · rw [if_neg e2, if_neg (by omega)]
theorem m_pour {f t i j c : Nat} (hf : f < 4) (ht : t < 4) (hi : i + c ≤ 60) (hj : j + c ≤ 60) : f_X11_pour_118 FU (nI f) (nI i) (nI t) (nI j) (nI c) (0 : Int32) m = some (1, gI (pT m (m.1 3) (m.1 4) (pvF (m.2 5) (60 * f + i) (60 * t + j) c)) 0 2 0) := by
  have q := m_pour_l (m := m) (a := m.1 3) (b := m.1 4) (g := m.2 5) hf ht hi hj c FU 0 (by omega) (by have := FU_big; omega)
  have e : (if j ≤ i then pvF (m.2 5) (60 * f + i) (60 * t + j) 0 else pvB (m.2 5) (60 * f + i) (60 * t + j) c 0) = m.2 5 := by
    split
    · funext z
      unfold pvF
      rw [if_neg (by omega)]
    · funext z
      unfold pvB
      rw [if_neg (by omega)]
  rw [e, pT_id] at q
  exact q
theorem gcpL_pR (u : GW) (f t p d c : Nat) : gcpL u (2 + f) (2 + t) p d c = pR u t (va_cpy (u.2 (2 + f)) (u.2 (2 + t)) p d c) := by
  refine Prod.ext rfl (funext fun i => ?_)
  show (fun b => if i = 2 + t then va_cpy (u.2 (2 + f)) (u.2 (2 + t)) p d c b else u.2 i b) = (if i = 2 + t then va_cpy (u.2 (2 + f)) (u.2 (2 + t)) p d c else u.2 i)
  by_cases h : i = 2 + t
  · simp only [if_pos h]
  · simp only [if_neg h]
theorem s_pour (h : RR x m) (p a q b n : Int32) : Sm (F_X10_pour p a q b n x) (F_X11_pour p a q b n m) := by
  have hT : ∀ t, t < 4 → TT (gsub x e_shX_shTr_1) m t := fun t ht => h.2.1.tt ht
  have no : ∀ v, Sm (some ((0 : Int32), gI x 0 15 v)) (some ((0 : Int32), gI m 0 2 v)) := fun v => Sm.fin h 0 v
  unfold F_X10_pour F_X11_pour f_X10_pour_36 f_X10_pour_64 f_X10_pour_118 f_X11_pour_28 f_X11_pour_54 f_X11_pour_109
  rw [x_isTray, m_isTray, x_isTray, m_isTray, Option.bind_some, Option.bind_some, Option.bind_some, Option.bind_some, ite01, ite01, ite01, ite01]
  by_cases hp : gin p 4
  · obtain ⟨f, hf, rfl⟩ := gin_of hp (by omega)
    rw [if_pos hp, if_pos hp]
    by_cases hq : gin q 4
    · obtain ⟨t, ht, rfl⟩ := gin_of hq (by omega)
      rw [if_pos hq, if_pos hq]
      by_cases ha : a < 0
      · rw [if_pos ha, if_pos ha]; exact no 1
      · rw [if_neg ha, if_neg ha]
        by_cases hb : b < 0
        · rw [if_pos hb, if_pos hb]; exact no 1
        · rw [if_neg hb, if_neg hb]
          by_cases hn : n < 0
          · rw [if_neg (Int32.not_le.mpr hn), if_neg (Int32.not_le.mpr hn)]; exact no 1
          · rw [if_pos (Int32.not_lt.mp hn), if_pos (Int32.not_lt.mp hn), if_pos hp, if_pos hq, x_isThere _ hf, x_isThere _ ht, Option.bind_some, Option.bind_some, nI_clamp (n := f) (by omega), nI_clamp (n := t) (by omega)]
            obtain ⟨i, hi, rfl⟩ := nI_of ha
            obtain ⟨j, hj, rfl⟩ := nI_of hb
            obtain ⟨c, hc, rfl⟩ := nI_of hn
            rcases hT f hf with ⟨f1, f2⟩ | ⟨s, y, hs, hy, f1, f2, f3, f4, f5⟩
            · rw [if_pos f1, if_pos f2, if_pos zer_eq]; exact no 2
            · rw [f1, f4, if_neg (nI_nm (by omega)), if_neg one_ne, if_neg (nI_nm (by omega))]
              rcases hT t ht with ⟨t1, t2⟩ | ⟨s2, z, hs2, hz, t1, t2, t3, t4, t5⟩
              · rw [if_pos t1, if_pos t2, if_pos zer_eq]; exact no 2
              · rw [t1, t4, if_neg (nI_nm (by omega)), if_neg one_ne, if_neg (nI_nm (by omega)), x_areAlike hf ht, f1, t1, f2, t2, Option.bind_some, ite01]
                by_cases hss : nI s = nI s2
                · rw [if_pos hss, if_pos hss, x_hasFrom hf hs f1 f3 hy i c hi hc, x_hasFrom ht hs2 t1 t3 hz j c hj hc, Option.bind_some, Option.bind_some, ite01, ite01]
                  by_cases h1 : i + c ≤ y
                  · have k1 : ¬ nI y - nI i < nI c := by rw [sub_ltI (by omega) hi hc]; omega
                    rw [if_pos h1, if_neg k1]
                    by_cases h2 : j + c ≤ z
                    · have k2 : nI c ≤ nI z - nI j := by rw [le_subI (by omega) hj hc]; omega
                      rw [if_pos h2, if_pos k2, m_pour hf ht (by omega) (by omega)]
                      unfold F_X9_shift
                      rw [x_hasFrom hf hs f1 f3 hy i c hi hc, x_hasFrom ht hs2 t1 t3 hz j c hj hc, if_pos h1, if_pos h2, Option.bind_some, Option.bind_some, if_neg one_ne, if_neg one_ne, if_pos hp, if_pos hq, if_pos ⟨ha, hb, hn, by rw [nI_clamp (by omega), nI_clamp (by omega)]; omega, by rw [nI_clamp (by omega), nI_clamp (by omega)]; omega⟩, nI_clamp (n := f) (by omega), nI_clamp (n := t) (by omega), nI_clamp (n := i) (by omega), nI_clamp (n := j) (by omega), nI_clamp (n := c) (by omega), gcpL_pR, Option.bind_some]
                      refine Sm.fin (h.tray ?_) 1 0
                      intro t' ht'
                      rcases hT t' ht' with ⟨h3, h4⟩ | ⟨s', n', hs', hn', h3, h4, h5, h6, h7⟩
                      · exact Or.inl ⟨h3, h4⟩
                      · refine Or.inr ⟨s', n', hs', hn', h3, h4, h5, h6, fun k hk => ?_⟩
                        show (if 2 + t' = 2 + t then va_cpy ((gsub x e_shX_shTr_1).2 (2 + f)) ((gsub x e_shX_shTr_1).2 (2 + t)) i j c else (gsub x e_shX_shTr_1).2 (2 + t')) k = pvF (m.2 5) (60 * f + i) (60 * t + j) c (60 * t' + k)
                        unfold pvF
                        by_cases e : t' = t
                        · subst e
                          rw [if_pos rfl]
                          have en : n' = z := (nI_eq (by omega) (by omega)).mp (h5.symm.trans t3)
                          by_cases hin : j ≤ k ∧ k < j + c
                          · rw [pk_cpy_in hin.1 hin.2, if_pos (by omega), show 60 * f + i + (60 * t' + k - (60 * t' + j)) = 60 * f + (i + (k - j)) by omega]
                            exact f5 _ (by omega)
                          · rw [pk_cpy_out (by omega), if_neg (by omega)]
                            exact h7 k hk
                        · rw [if_neg (by omega), if_neg (by omega)]
                          exact h7 k hk
                    · have k2 : ¬ nI c ≤ nI z - nI j := by rw [le_subI (by omega) hj hc]; omega
                      rw [if_neg h2, if_neg k2]; exact no 3
                  · have k1 : nI y - nI i < nI c := by rw [sub_ltI (by omega) hi hc]; omega
                    rw [if_neg h1, if_pos k1]; exact no 3
                · rw [if_neg hss, if_neg hss]; exact no 8
    · rw [if_neg hq, if_neg hq]; exact no 1
  · rw [if_neg hp, if_neg hp]; exact no 1
/-! the grey of all to a tray -/
theorem copyG_l {t nc nr nk nl s n : Nat} (ht : t < 4) (hs : s ≤ 3) (hn60 : n ≤ 60) (hnk : nk ≤ n) : ∀ k n1 n2 i (x m : GW), i + k = nk → k < n1 → k < n2 → RR x m → Bq (gsub x e_shX_shB_14) (m.1 1) (m.2 2) nc nr nk nl → Bi (m.1 1) nc nr nk nl → x.1 7 t = nI s → m.1 3 t = nI s → x.1 8 t = nI n → Sm (f_X10_copyGrey_61 n1 (nI t) (nI i) x) (f_X11_copyGrey_52 n2 (nI t) (nI i) m) := by
  intro k
  induction k with
  | zero =>
    intro n1 n2 i x m e h1 h2 h hb hi h7 h3 h8
    obtain ⟨n1, rfl⟩ := fu_pos h1
    obtain ⟨n2, rfl⟩ := fu_pos h2
    have hc := hi.cnt
    show Sm (b_X10_copyGrey_61 _ (nI t) (nI i) x) (b_X11_copyGrey_52 _ (nI t) (nI i) m)
    unfold b_X10_copyGrey_61 b_X11_copyGrey_52
    rw [show x.1 14 5 = nI nk from hb.n2, hi.n2, if_pos (nI_le (by omega) (by omega)), if_pos (nI_le (by omega) (by omega))]
    exact Sm.fin h _ _
  | succ k ih =>
    intro n1 n2 i x m e h1 h2 h hb hi h7 h3 h8
    obtain ⟨n1, rfl⟩ := fu_pos h1
    obtain ⟨n2, rfl⟩ := fu_pos h2
    have hc := hi.cnt
    have hT : ∀ t, t < 4 → TT (gsub x e_shX_shTr_1) m t := fun t ht => h.2.1.tt ht
    obtain ⟨r, hr⟩ := cut_some (m.1 1 (27 + 7 * i + 2)).toInt64 (nI s)
    show Sm (b_X10_copyGrey_61 _ (nI t) (nI i) x) (b_X11_copyGrey_52 _ (nI t) (nI i) m)
    unfold b_X10_copyGrey_61 b_X11_copyGrey_52
    rw [show x.1 14 5 = nI nk from hb.n2, hi.n2, if_neg (nI_ge (by omega) (by omega)), if_neg (nI_ge (by omega) (by omega)), if_pos (gin_nI (by omega) (by omega)), nI_clamp (n := i) (by omega), show x.1 21 i = m.1 1 (27 + 7 * i + 2) from hb.grey (by omega), x_put (u := gsub x e_shX_shTr_1) ht hs h7 h8 hn60 (i := i) (by omega) hr, Option.bind_some, m_clerk2 (by omega), Option.bind_some, if_pos (gin_nI ht (by omega)), nI_clamp (n := t) (by omega), h3, hr, Option.bind_some, nq_Lmul, nI_add, if_pos (gin_nI (by show 60 * t + i < 240; omega) (by omega)), nI_clamp (n := 60 * t + i) (by omega), nI_1]
    have e3 : gL m 5 (60 * t + i) r = pT m (m.1 3) (m.1 4) (vp_updL (m.2 5) (60 * t + i) r) := by
      have := gL_pT m (m.1 3) (m.1 4) (m.2 5) (60 * t + i) r
      rw [pT_id] at this
      exact this
    rw [e3]
    exact ih n1 n2 (i + 1) _ _ (by omega) (by omega) (by omega) (h.tray (TT.put hT (n := n) h8 hn60 (by omega) ht r)) hb hi h7 h3 h8
theorem s_copyGrey (h : RR x m) (p : Int32) : Sm (F_X10_copyGrey p x) (F_X11_copyGrey p m) := by
  obtain ⟨nc, nr, nk, nl, hb, hi⟩ := h.bnk
  have hn := hi.cnt
  have hT : ∀ t, t < 4 → TT (gsub x e_shX_shTr_1) m t := fun t ht => h.2.1.tt ht
  unfold F_X10_copyGrey F_X11_copyGrey
  rw [x_isTray, m_isTray, Option.bind_some, Option.bind_some, ite01, ite01]
  by_cases hp : gin p 4
  · obtain ⟨t, ht, rfl⟩ := gin_of hp (by omega)
    rw [if_pos hp, if_pos hp, if_pos hp, nI_clamp (n := t) (by omega), x_isThere _ ht, Option.bind_some, show x.1 14 5 = nI nk from hb.n2, hi.n2]
    rcases hT t ht with ⟨h1, h2⟩ | ⟨s, n, hs, hn60, h1, h2, h3, h4, h5⟩
    · rw [if_pos h1, if_pos h2, if_pos zer_eq]; exact Sm.fin h _ _
    · rw [h1, h4, if_neg (nI_nm (by omega)), if_neg one_ne, if_neg (nI_nm (by omega)), show F_X9_hasFrom (gsub x e_shX_shTr_1) (nI t) (0 : Int32) (nI nk) = _ from x_hasFrom ht hs h1 h3 hn60 0 nk (by omega) (by omega), Option.bind_some, ite01]
      by_cases hl : nk ≤ n
      · rw [if_pos (by omega), if_pos (nI_le hl (by omega))]
        have e7 : x.1 7 t = nI s := by
          have : t = 0 ∨ t = 1 ∨ t = 2 ∨ t = 3 := by omega
          exact h1
        exact copyG_l ht hs hn60 hl nk FU FU 0 x m (by omega) (by have := FU_big; omega) (by have := FU_big; omega) h hb hi e7 h2 h3
      · rw [if_neg (by omega), if_neg (nI_ge (Nat.lt_of_not_le hl) (by omega))]
        exact Sm.fin h _ _
  · rw [if_neg hp, if_neg hp]; exact Sm.fin h _ _
end
