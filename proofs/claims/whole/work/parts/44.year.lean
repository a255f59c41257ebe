/-! A year goes by, on both sides. -/
def sDue (a : Nat → Int32) (nr c : Nat) : Int32 := sPb a nr (sLk a c)
def aY1 (a : Nat → Int32) (nr c : Nat) : Nat → Int32 := if a 5 < sDue a nr c then upd a (27 + 7 * c + 6) (a (27 + 7 * c + 6) + 1) else upd (upd a 5 (a 5 - sDue a nr c)) (27 + 7 * c + 5) (a (27 + 7 * c + 5) + sDue a nr c)
def aY2 (a : Nat → Int32) (c : Nat) : Nat → Int32 := upd a (27 + 7 * c + 1) (imin (999 : Int32) (a (27 + 7 * c + 1) + 1))
def aY3 (a : Nat → Int32) (c : Nat) : Nat → Int32 := upd a (27 + 7 * c + 2) (sGt a c 1)
def aYs (nr : Nat) (c : Nat) (t : Int32 × (Nat → Int32)) : Int32 × (Nat → Int32) := (if t.2 5 < sDue t.2 nr c then t.1 else t.1 + sDue t.2 nr c, aY3 (aY2 (aY1 t.2 nr c) c) c)
def aYr (nr i k : Nat) (t : Int32 × (Nat → Int32)) : Int32 × (Nat → Int32) := ((fo (aYs nr) i k t).1, upd (fo (aYs nr) i k t).2 6 ((fo (aYs nr) i k t).2 6 + 1))
section
variable {w m : GW} {a : Nat → Int32} {nm : Nat → Int64} {nc nr nk nl : Nat}
theorem Bi.y1 (hi : Bi a nc nr nk nl) {c : Nat} (hc : c < nk) : Bi (aY1 a nr c) nc nr nk nl := by
  unfold aY1
  by_cases hd : a 5 < sDue a nr c
  · rw [if_pos hd]; exact hi.set_unpaid hc
  · rw [if_neg hd]
    refine Bi.set_paid (hi.set_cash ?_) hc
    obtain ⟨p, hp, ep⟩ := sPb_small hi (sLk a c)
    obtain ⟨q, hq, eq⟩ := hi.cash
    have e : sDue a nr c = nI p := ep
    rw [e, eq] at hd ⊢
    have h2 : p ≤ q := Nat.le_of_not_lt (fun h => hd (nI_lt h (by omega)))
    exact ⟨q - p, by omega, nI_sub h2⟩
theorem Bi.y2 (hi : Bi a nc nr nk nl) {c : Nat} (hc : c < nk) : Bi (aY2 a c) nc nr nk nl := hi.set_served hc
theorem Bi.y3 (hi : Bi a nc nr nk nl) {c : Nat} (hc : c < nk) : Bi (aY3 a c) nc nr nk nl := hi.set_grey hc (sGt_small (y := 1) hi hc (by omega))
theorem Bi.ys (hi : Bi a nc nr nk nl) {c : Nat} (hc : c < nk) (t : Int32) : Bi (aYs nr c (t, a)).2 nc nr nk nl := ((hi.y1 hc).y2 hc).y3 hc
theorem Bi.yf {t : Int32 × (Nat → Int32)} (hi : Bi t.2 nc nr nk nl) {i k : Nat} (hk : i + k ≤ nk) : Bi (fo (aYs nr) i k t).2 nc nr nk nl :=
  fo_ind (aYs nr) (fun _ t => Bi t.2 nc nr nk nl) k i t hi (fun c t _ h2 h => Bi.ys (a := t.2) h (by omega) t.1)
theorem Bi.yr (hi : Bi a nc nr nk nl) (t : Int32) : Bi (aYr nr 0 nk (t, a)).2 nc nr nk nl := (Bi.yf (t := (t, a)) hi (by omega)).set_year
theorem x_year_t (h : Bq w a nm nc nr nk nl) (hi : Bi a nc nr nk nl) {c : Nat} (hc : c < nk) : ∃ w', (∀ k4 t, f_X0_passYear_67 k4 t (nI c) w = k4 t (nI (c + 1)) w') ∧ Bq w' (aY3 (aY2 a c) c) nm nc nr nk nl := by
  have hn := hi.cnt
  have h2 : Bq (gI w 6 c (imin (999 : Int32) (w.1 6 c + (1 : Int32)))) (aY2 a c) nm nc nr nk nl := by
    rw [h.served hc]
    exact h.set_served hn hc _
  have hi2 := hi.y2 hc
  refine ⟨_, fun k4 t => ?_, h2.set_grey hn hc (sGt (aY2 a c) c 1)⟩
  unfold f_X0_passYear_67
  rw [if_pos (gin_nI (by omega) (by omega)), nI_clamp (by omega), x_staying h2 hi2 hc, Option.bind_some, nI_1]
theorem x_year_l : ∀ k n i t (w : GW) (a : Nat → Int32), Bq w a nm nc nr nk nl → Bi a nc nr nk nl → i + k = nk → k < n → ∃ w', f_X0_passYear_4 n t (nI i) w = some ((aYr nr i k (t, a)).1, w') ∧ Bq w' (aYr nr i k (t, a)).2 nm nc nr nk nl := by
  intro k
  induction k with
  | zero =>
    intro n i t w a h hi e hn
    have := hi.cnt
    obtain ⟨n, rfl⟩ := fu_pos hn
    refine ⟨_, ?_, h.set_year hi.cnt (a 6 + 1)⟩
    show b_X0_passYear_4 _ t (nI i) w = _
    unfold b_X0_passYear_4
    rw [h.n2, if_pos (nI_le (by omega) (by omega)), h.year]
    rfl
  | succ k ih =>
    intro n i t w a h hi e hn
    have hnn := hi.cnt
    obtain ⟨n, rfl⟩ := fu_pos hn
    have hc : i < nk := by omega
    show ∃ w', b_X0_passYear_4 _ t (nI i) w = some ((aYr nr (i + 1) k (aYs nr i (t, a))).1, w') ∧ Bq w' (aYr nr (i + 1) k (aYs nr i (t, a))).2 nm nc nr nk nl
    unfold b_X0_passYear_4
    rw [h.n2, if_neg (nI_ge (by omega) (by omega)), x_looksOf h hi hc, Option.bind_some, x_payBy h hi, Option.bind_some, h.cash]
    by_cases hd : a 5 < sDue a nr i
    · have e1 : aY1 a nr i = upd a (27 + 7 * i + 6) (a (27 + 7 * i + 6) + 1) := if_pos hd
      have h1 : Bq (gI w 10 i (w.1 10 i + (1 : Int32))) (aY1 a nr i) nm nc nr nk nl := by
        rw [e1, h.unpaid hc]
        exact h.set_unpaid hnn hc _
      obtain ⟨w3, hw3, h3⟩ := x_year_t h1 (hi.y1 hc) hc
      have e2 : aYs nr i (t, a) = (t, aY3 (aY2 (aY1 a nr i) i) i) := by unfold aYs; rw [if_pos hd]
      obtain ⟨w', hw', h'⟩ := ih n (i + 1) t w3 _ h3 (((hi.y1 hc).y2 hc).y3 hc) (by omega) (by omega)
      refine ⟨w', ?_, ?_⟩
      · rw [if_pos (show a 5 < sPb a nr (sLk a i) from hd), if_pos (gin_nI (by omega) (by omega)), nI_clamp (by omega), hw3, hw', e2]
      · rw [e2]; exact h'
    · have e1 : aY1 a nr i = upd (upd a 5 (a 5 - sDue a nr i)) (27 + 7 * i + 5) (a (27 + 7 * i + 5) + sDue a nr i) := if_neg hd
      have h1 : Bq (gI (gI w 0 1 (a 5 - sPb a nr (sLk a i))) 9 i (w.1 9 i + sPb a nr (sLk a i))) (aY1 a nr i) nm nc nr nk nl := by
        rw [e1, h.paid hc]
        exact (h.set_cash hnn _).set_paid hnn hc _
      obtain ⟨w3, hw3, h3⟩ := x_year_t h1 (hi.y1 hc) hc
      have e2 : aYs nr i (t, a) = (t + sDue a nr i, aY3 (aY2 (aY1 a nr i) i) i) := by unfold aYs; rw [if_neg hd]
      obtain ⟨w', hw', h'⟩ := ih n (i + 1) (t + sDue a nr i) w3 _ h3 (((hi.y1 hc).y2 hc).y3 hc) (by omega) (by omega)
      refine ⟨w', ?_, ?_⟩
      · rw [if_neg (show ¬ a 5 < sPb a nr (sLk a i) from hd), if_pos (gin_nI (by omega) (by omega)), nI_clamp (by omega), hw3]
        rw [e2]
        exact hw'
      · rw [e2]; exact h'
theorem x_year (h : Bq w a nm nc nr nk nl) (hi : Bi a nc nr nk nl) : ∃ w', F_X0_passYear w = some ((aYr nr 0 nk (0, a)).1, w') ∧ Bq w' (aYr nr 0 nk (0, a)).2 nm nc nr nk nl := by
  have := hi.cnt
  exact x_year_l nk FU 0 0 w a h hi (by omega) (by have := FU_big; omega)
theorem m_year_t (hi : Bi a nc nr nk nl) {c : Nat} (hc : c < nk) (k4 : Int32 → Int32 → GW → Option (Int32 × GW)) (t : Int32) : f_X11_yearGoes_86 k4 t (nI c) (nI (27 + 7 * c)) (pA m a) = k4 t (nI (c + 1)) (pA m (aY3 (aY2 a c) c)) := by
  have hn := hi.cnt
  obtain ⟨s, hs, es⟩ := hi.seat hc
  have e1 : upd a (27 + 7 * c + 1) (imin (999 : Int32) (a (27 + 7 * c + 1) + (1 : Int32))) (27 + 7 * c) = nI s := by rw [pk_un (by omega)]; exact es
  unfold f_X11_yearGoes_86
  rw [nq_addL, nq_addL, if_pos (gin_nI (by show 27 + 7 * c + 1 < 2356; omega) (by omega)), if_pos (gin_nI (by show 27 + 7 * c + 2 < 2356; omega) (by omega)), if_pos (gin_nI (by omega) (by omega)), nI_clamp (n := 27 + 7 * c + 1) (by omega), nI_clamp (n := 27 + 7 * c + 2) (by omega), nI_clamp (n := 27 + 7 * c) (by omega), gI_pA, pA_pA, pA_1, pA_1]
  show (F_X11_stillOf _ (upd a (27 + 7 * c + 1) (imin (999 : Int32) (a (27 + 7 * c + 1) + (1 : Int32))) (27 + 7 * c))).bind _ = _
  rw [e1, m_stillOf (by omega), Option.bind_some, gI_pA, pA_pA, nI_1]
  show k4 t (nI (c + 1)) (pA m (upd (aY2 a c) (27 + 7 * c + 2) (imin (99 : Int32) (aY2 a c (27 + 7 * c + 2) + aY2 a c (10 + s))))) = k4 t (nI (c + 1)) (pA m (upd (aY2 a c) (27 + 7 * c + 2) (imin (99 : Int32) (aY2 a c (27 + 7 * c + 2) + 1 * aY2 a c (10 + (aY2 a c (27 + 7 * c)).toNatClampNeg)))))
  rw [show aY2 a c (27 + 7 * c) = nI s from e1, nI_clamp (by omega), Int32.one_mul]
theorem m_year_l : ∀ k n i t (a : Nat → Int32), Bi a nc nr nk nl → i + k = nk → k < n → f_X11_yearGoes_4 n t (nI i) (pA m a) = some ((aYr nr i k (t, a)).1, pA m (aYr nr i k (t, a)).2) := by
  intro k
  induction k with
  | zero =>
    intro n i t a hi e hn
    have := hi.cnt
    obtain ⟨n, rfl⟩ := fu_pos hn
    show b_X11_yearGoes_4 _ t (nI i) (pA m a) = _
    unfold b_X11_yearGoes_4
    rw [pA_1, hi.n2, if_pos (nI_le (by omega) (by omega)), gI_pA, pA_pA]
    rfl
  | succ k ih =>
    intro n i t a hi e hn
    have hnn := hi.cnt
    obtain ⟨n, rfl⟩ := fu_pos hn
    have hc : i < nk := by omega
    have hi' : Bi ((pA m a).1 1) nc nr nk nl := hi
    show b_X11_yearGoes_4 _ t (nI i) (pA m a) = some ((aYr nr (i + 1) k (aYs nr i (t, a))).1, pA m (aYr nr (i + 1) k (aYs nr i (t, a))).2)
    unfold b_X11_yearGoes_4
    rw [m_clerkRow, m_looksOf (by omega), Option.bind_some, Option.bind_some, m_payBy hi', Option.bind_some, pA_1, hi.n2, if_neg (nI_ge (by omega) (by omega)), nq_addL, nq_addL, if_pos (gin_nI (by show 27 + 7 * i + 5 < 2356; omega) (by omega)), if_pos (gin_nI (by show 27 + 7 * i + 6 < 2356; omega) (by omega)), nI_clamp (by show 27 + 7 * i + 5 < _; omega), nI_clamp (by show 27 + 7 * i + 6 < _; omega)]
    by_cases hd : a 5 < sDue a nr i
    · have e1 : aY1 a nr i = upd a (27 + 7 * i + 6) (a (27 + 7 * i + 6) + 1) := if_pos hd
      have e2 : aYs nr i (t, a) = (t, aY3 (aY2 (aY1 a nr i) i) i) := by unfold aYs; rw [if_pos hd]
      rw [if_neg (show ¬ sPb a nr (sLk a i) ≤ a 5 from Int32.not_le.mpr hd), gI_pA, pA_pA]
      show f_X11_yearGoes_86 _ t (nI i) (nI (27 + 7 * i)) (pA m (upd a (27 + 7 * i + 6) (a (27 + 7 * i + 6) + 1))) = _
      rw [← e1, m_year_t (hi.y1 hc) hc, ih n (i + 1) t _ (((hi.y1 hc).y2 hc).y3 hc) (by omega) (by omega), e2]
    · have e1 : aY1 a nr i = upd (upd a 5 (a 5 - sDue a nr i)) (27 + 7 * i + 5) (a (27 + 7 * i + 5) + sDue a nr i) := if_neg hd
      have e2 : aYs nr i (t, a) = (t + sDue a nr i, aY3 (aY2 (aY1 a nr i) i) i) := by unfold aYs; rw [if_neg hd]
      rw [if_pos (show sPb a nr (sLk a i) ≤ a 5 from Int32.not_lt.mp hd), gI_pA (pA m a), pA_pA, gI_pA, pA_pA]
      have e3 : upd (upd a 5 (a 5 - sPb a nr (sLk a i))) (27 + 7 * i + 5) (upd a 5 (a 5 - sPb a nr (sLk a i)) (27 + 7 * i + 5) + sPb a nr (sLk a i)) = aY1 a nr i := by
        rw [e1, pk_un (by omega)]; rfl
      show f_X11_yearGoes_86 _ (t + sDue a nr i) (nI i) (nI (27 + 7 * i)) (pA m (upd (upd a 5 (a 5 - sPb a nr (sLk a i))) (27 + 7 * i + 5) (upd a 5 (a 5 - sPb a nr (sLk a i)) (27 + 7 * i + 5) + sPb a nr (sLk a i)))) = _
      rw [e3, m_year_t (hi.y1 hc) hc, ih n (i + 1) _ _ (((hi.y1 hc).y2 hc).y3 hc) (by omega) (by omega), e2]
theorem m_year (hi : Bi a nc nr nk nl) : F_X11_yearGoes (pA m a) = some ((aYr nr 0 nk (0, a)).1, pA m (aYr nr 0 nk (0, a)).2) := by
  have := hi.cnt
  exact m_year_l nk FU 0 0 a hi (by omega) (by have := FU_big; omega)
end
