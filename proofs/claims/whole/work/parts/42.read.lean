/-! More that is read: totals, sets of a rank, grey in some years, sums of clients. -/
theorem sh_amt {i : Nat} (h : i < 32) : ((nI i &&& 31).toBitVec.smod 32).toNat = i := (by decide +kernel : ∀ j : Fin 32, ((nI j.val &&& 31).toBitVec.smod 32).toNat = j.val) ⟨i, h⟩
theorem one_shl {i : Nat} (h : i < 31) : (1 : Int32) <<< (nI i &&& 31) = nI (2 ^ i) := by
  have h2 : 2 ^ i < 2 ^ 31 := Nat.pow_lt_pow_right (by decide) h
  have h3 := pk_shlN (n := 1) (nI i &&& 31) i (sh_amt (by omega)) (by omega)
  rw [Nat.one_mul] at h3
  exact h3
theorem nI_and (a b : Nat) : nI a &&& nI b = nI (a &&& b) := by
  apply Int32.toBitVec_inj.1
  show BitVec.ofNat 32 a &&& BitVec.ofNat 32 b = BitVec.ofNat 32 (a &&& b)
  apply BitVec.eq_of_getLsbD_eq
  intro i hi
  simp [hi]
theorem nI_or (a b : Nat) : nI a ||| nI b = nI (a ||| b) := by
  apply Int32.toBitVec_inj.1
  show BitVec.ofNat 32 a ||| BitVec.ofNat 32 b = BitVec.ofNat 32 (a ||| b)
  apply BitVec.eq_of_getLsbD_eq
  intro i hi
  simp [hi]
theorem tb_and (n j : Nat) : n &&& 2 ^ j = 0 ↔ n.testBit j = false := by
  constructor
  · intro h
    have h1 : (n &&& 2 ^ j).testBit j = false := by rw [h]; simp
    rw [Nat.testBit_and] at h1
    simpa [Nat.testBit_two_pow_self] using h1
  · intro h
    apply Nat.eq_of_testBit_eq
    intro i
    rw [Nat.testBit_and]
    by_cases hi : j = i
    · subst hi; simp [h]
    · simp [Nat.testBit_two_pow, hi]
theorem bitC {s k : Nat} (hs : s < 2147483648) (hk : k < 31) : (nI s &&& ((1 : Int32) <<< (nI k &&& 31)) = 0) = (s.testBit k = false) := by
  rw [one_shl hk, nI_and]
  have h2 : s &&& 2 ^ k ≤ s := Nat.and_le_left
  apply propext
  rw [← tb_and]
  exact nI_eq (b := 0) (by omega) (by omega)
theorem bitM {s k : Nat} (hs : s < 2147483648) (hk : k < 31) : (((nI s >>> (nI k &&& 31)) &&& (1 : Int32)) = (1 : Int32)) = (s.testBit k = true) := by
  rw [pk_shrN hs (nI k &&& 31) k (sh_amt (by omega))]
  show (nI (s / 2 ^ k) &&& nI 1 = nI 1) = _
  rw [nI_and, Nat.and_one_is_mod, Nat.testBit_eq_decide_div_mod_eq]
  apply propext
  have h2 : s / 2 ^ k % 2 < 2 := Nat.mod_lt _ (by decide)
  rw [decide_eq_true_iff]
  exact nI_eq (by omega) (by omega)
theorem m_isIn {m : GW} {s k : Nat} (hs : s < 2147483648) (hk : k < 31) : F_X11_isIn m (nI s) (nI k) = some (if s.testBit k = true then 1 else 0) := by
  unfold F_X11_isIn
  by_cases h : s.testBit k = true
  · rw [if_pos ((bitM hs hk).mpr h), if_pos h]
  · rw [if_neg (fun e => h ((bitM hs hk).mp e)), if_neg h]
section
variable {w m : GW} {a : Nat → Int32} {nm : Nat → Int64} {nc nr nk nl : Nat}
def sTot (a : Nat → Int32) (nk j : Nat) : Int32 := fo (fun c t => t + a (27 + 7 * c + j)) 0 nk 0
theorem x_total_l (hn2 : w.1 0 5 = nI nk) (h6 : nk ≤ 6) {q j : Nat} (hq : ∀ k, k < nk → w.1 q k = a (27 + 7 * k + j)) : ∀ k n i t, i + k = nk → k < n → f_X0_totalOf_4 q w n t (nI i) = some (fo (fun c t => t + a (27 + 7 * c + j)) i k t) := by
  intro k
  induction k with
  | zero =>
    intro n i t e hn
    obtain ⟨n, rfl⟩ := fu_pos hn
    show b_X0_totalOf_4 _ q w t (nI i) = _
    unfold b_X0_totalOf_4
    rw [hn2, if_pos (nI_le (by omega) (by omega))]
    rfl
  | succ k ih =>
    intro n i t e hn
    obtain ⟨n, rfl⟩ := fu_pos hn
    show b_X0_totalOf_4 _ q w t (nI i) = some (fo _ (i + 1) k (t + a (27 + 7 * i + j)))
    unfold b_X0_totalOf_4
    rw [hn2, if_neg (nI_ge (by omega) (by omega)), if_neg (nI_geL (by omega) (by omega)), if_pos (gin_nI (by omega) (by omega)), nI_clamp (by omega), hq i (by omega), nI_1, ih n (i + 1) _ (by omega) (by omega)]
theorem x_grey_all (h : Bq w a nm nc nr nk nl) (hi : Bi a nc nr nk nl) : F_X0_greyOfAll w = some (sTot a nk 2) := by
  have := hi.cnt
  unfold F_X0_greyOfAll F_X0_totalOf
  rw [show (0 : Int32) = nI 0 from rfl, x_total_l h.n2 (by omega) (a := a) (j := 2) (fun k hk => h.grey hk) nk FU 0 (nI 0) (by omega) (by have := FU_big; omega)]
  rfl
theorem x_paid_all (h : Bq w a nm nc nr nk nl) (hi : Bi a nc nr nk nl) : F_X0_paidOfAll w = some (sTot a nk 5) := by
  have := hi.cnt
  unfold F_X0_paidOfAll F_X0_totalOf
  rw [show (0 : Int32) = nI 0 from rfl, x_total_l h.n2 (by omega) (a := a) (j := 5) (fun k hk => h.paid hk) nk FU 0 (nI 0) (by omega) (by have := FU_big; omega)]
  rfl
theorem x_unpaid_all (h : Bq w a nm nc nr nk nl) (hi : Bi a nc nr nk nl) : F_X0_unpaidOfAll w = some (sTot a nk 6) := by
  have := hi.cnt
  unfold F_X0_unpaidOfAll F_X0_totalOf
  rw [show (0 : Int32) = nI 0 from rfl, x_total_l h.n2 (by omega) (a := a) (j := 6) (fun k hk => h.unpaid hk) nk FU 0 (nI 0) (by omega) (by have := FU_big; omega)]
  rfl
theorem m_together_l (hi : Bi (m.1 1) nc nr nk nl) {j : Nat} (hj : j < 64) : ∀ k n i t, i + k = nk → k < n → f_X11_together_4 m n (nI j) t (nI i) = some (fo (fun c t => t + m.1 1 (27 + 7 * c + j)) i k t) := by
  have := hi.cnt
  intro k
  induction k with
  | zero =>
    intro n i t e hn
    obtain ⟨n, rfl⟩ := fu_pos hn
    show b_X11_together_4 _ m (nI j) t (nI i) = _
    unfold b_X11_together_4
    rw [hi.n2, if_pos (nI_le (by omega) (by omega))]
    rfl
  | succ k ih =>
    intro n i t e hn
    obtain ⟨n, rfl⟩ := fu_pos hn
    show b_X11_together_4 _ m (nI j) t (nI i) = some (fo _ (i + 1) k (t + m.1 1 (27 + 7 * i + j)))
    unfold b_X11_together_4
    rw [hi.n2, if_neg (nI_ge (by omega) (by omega)), m_clerkOf (by omega) hj, Option.bind_some, nI_1, ih n (i + 1) _ (by omega) (by omega)]
theorem m_together (hi : Bi (m.1 1) nc nr nk nl) {j : Nat} (hj : j < 64) : F_X11_together m (nI j) = some (sTot (m.1 1) nk j) := by
  have := hi.cnt
  exact m_together_l hi hj nk FU 0 0 (by omega) (by have := FU_big; omega)
/-! who is of a rank -/
def sOfR (a : Nat → Int32) (nr nk : Nat) (x : Int32) : Int32 := fo (fun c t => if sRb a nr (sLk a c) = x then t ||| ((1 : Int32) <<< (nI c &&& 31)) else t) 0 nk 0
theorem x_ofRank_l (h : Bq w a nm nc nr nk nl) (hi : Bi a nc nr nk nl) (x : Int32) : ∀ k n i t, i + k = nk → k < n → f_X0_clerksOfRank_4 w n x t (nI i) = some (fo (fun c t => if sRb a nr (sLk a c) = x then t ||| ((1 : Int32) <<< (nI c &&& 31)) else t) i k t) := by
  have := hi.cnt
  intro k
  induction k with
  | zero =>
    intro n i t e hn
    obtain ⟨n, rfl⟩ := fu_pos hn
    show b_X0_clerksOfRank_4 _ w x t (nI i) = _
    unfold b_X0_clerksOfRank_4
    rw [h.n2, if_pos (nI_le (by omega) (by omega))]
    rfl
  | succ k ih =>
    intro n i t e hn
    obtain ⟨n, rfl⟩ := fu_pos hn
    show b_X0_clerksOfRank_4 _ w x t (nI i) = some (fo _ (i + 1) k (if sRb a nr (sLk a i) = x then t ||| ((1 : Int32) <<< (nI i &&& 31)) else t))
    unfold b_X0_clerksOfRank_4 f_X0_clerksOfRank_31
    rw [h.n2, if_neg (nI_ge (by omega) (by omega)), x_looksOf h hi (by omega), Option.bind_some, x_rankBy h hi, Option.bind_some, nI_1, ih n (i + 1) _ (by omega) (by omega), ih n (i + 1) _ (by omega) (by omega)]
    by_cases hp : sRb a nr (sLk a i) = x
    · rw [if_pos hp, if_pos hp]
    · rw [if_neg hp, if_neg hp]
theorem x_ofRank (h : Bq w a nm nc nr nk nl) (hi : Bi a nc nr nk nl) (x : Int32) : F_X0_clerksOfRank w x = some (sOfR a nr nk x) := by
  have := hi.cnt
  exact x_ofRank_l h hi x nk FU 0 0 (by omega) (by have := FU_big; omega)
theorem m_ofRank_l (hi : Bi (m.1 1) nc nr nk nl) (x : Int32) : ∀ k n i t, i + k = nk → k < n → f_X11_ofRank_4 m n x t (nI i) = some (fo (fun c t => if sRb (m.1 1) nr (sLk (m.1 1) c) = x then t ||| ((1 : Int32) <<< (nI c &&& 31)) else t) i k t) := by
  have := hi.cnt
  intro k
  induction k with
  | zero =>
    intro n i t e hn
    obtain ⟨n, rfl⟩ := fu_pos hn
    show b_X11_ofRank_4 _ m x t (nI i) = _
    unfold b_X11_ofRank_4
    rw [hi.n2, if_pos (nI_le (by omega) (by omega))]
    rfl
  | succ k ih =>
    intro n i t e hn
    obtain ⟨n, rfl⟩ := fu_pos hn
    show b_X11_ofRank_4 _ m x t (nI i) = some (fo _ (i + 1) k (if sRb (m.1 1) nr (sLk (m.1 1) i) = x then t ||| ((1 : Int32) <<< (nI i &&& 31)) else t))
    unfold b_X11_ofRank_4 f_X11_ofRank_35
    rw [hi.n2, if_neg (nI_ge (by omega) (by omega)), m_looksOf (by omega), Option.bind_some, m_rankBy hi, Option.bind_some, nI_1, ih n (i + 1) _ (by omega) (by omega), ih n (i + 1) _ (by omega) (by omega)]
    by_cases hp : sRb (m.1 1) nr (sLk (m.1 1) i) = x
    · rw [if_pos hp, if_pos hp]
    · rw [if_neg hp, if_neg hp, Int32.or_zero]
theorem m_ofRank (hi : Bi (m.1 1) nc nr nk nl) (x : Int32) : F_X11_ofRank m x = some (sOfR (m.1 1) nr nk x) := by
  have := hi.cnt
  exact m_ofRank_l hi x nk FU 0 0 (by omega) (by have := FU_big; omega)
/-! grey in some years -/
/-- grey of so much in a corner in so many years -/
def sGb (a : Nat → Int32) (g : Int32) (s : Nat) (y : Int32) : Int32 := imin (99 : Int32) (g + y * a (10 + s))
/-- grey of a clerk who stays -/
def sGt (a : Nat → Int32) (c : Nat) (y : Int32) : Int32 := sGb a (a (27 + 7 * c + 2)) (a (27 + 7 * c)).toNatClampNeg y
/-- grey of a clerk who sits in a corner -/
def sGa (a : Nat → Int32) (c s : Nat) (y : Int32) : Int32 := sGb a (if a (27 + 7 * c) = nI s then a (27 + 7 * c + 2) else a (27 + 7 * c + 2) / (2 : Int32)) s y
theorem x_staying (h : Bq w a nm nc nr nk nl) (hi : Bi a nc nr nk nl) {c : Nat} (hc : c < nk) (y : Int32) : F_X0_greyStaying w (nI c) y = some (sGt a c y) := by
  have := hi.cnt
  obtain ⟨s, hs, es⟩ := hi.seat hc
  unfold F_X0_greyStaying sGt sGb
  rw [x_hasClerk h hi, if_pos (gin_nI hc (by omega)), Option.bind_some, if_neg (by decide), if_pos (gin_nI (by omega) (by omega)), nI_clamp (by omega), h.seat hc, es, x_hasCorner h hi, if_pos (gin_nI hs (by omega)), Option.bind_some, if_neg (by decide), if_pos (gin_nI (by omega) (by omega)), nI_clamp (by omega), h.grey hc, h.still hs, x_greyGrown, Option.bind_some, Int32.mul_comm]
theorem x_seated (h : Bq w a nm nc nr nk nl) (hi : Bi a nc nr nk nl) {c s : Nat} (hc : c < nk) (hs : s < nc) (y : Int32) : F_X0_greySeated w (nI c) (nI s) y = some (sGa a c s y) := by
  have := hi.cnt
  unfold F_X0_greySeated sGa sGb f_X0_greySeated_45
  rw [x_hasClerk h hi, if_pos (gin_nI hc (by omega)), Option.bind_some, if_neg (by decide), x_hasCorner h hi, if_pos (gin_nI hs (by omega)), Option.bind_some, if_neg (by decide), if_pos (gin_nI (by omega) (by omega)), nI_clamp (by omega), h.seat hc, if_pos (gin_nI (by omega) (by omega)), if_pos (gin_nI (by omega) (by omega)), nI_clamp (by omega), h.grey hc, h.still hs, x_greyGrown, x_greyGrown, Option.bind_some, Option.bind_some, Int32.mul_comm]
  by_cases e : a (27 + 7 * c) = nI s
  · rw [if_pos e, if_pos e]
  · rw [if_neg e, if_neg e]
theorem m_greyBy {s : Nat} (hs : s < 64) (g y : Int32) : F_X11_greyBy m g (nI s) y = some (sGb (m.1 1) g s y) := by
  unfold F_X11_greyBy
  rw [m_stillOf hs]
  rfl
theorem m_greyThen (hi : Bi (m.1 1) nc nr nk nl) {c : Nat} (hc : c < nk) (y : Int32) : F_X11_greyThen m (nI c) y = some (sGt (m.1 1) c y) := by
  have := hi.cnt
  obtain ⟨s, hs, es⟩ := hi.seat hc
  unfold F_X11_greyThen sGt
  rw [m_clerk2 (by omega), Option.bind_some, m_clerk0 (by omega), Option.bind_some, es, m_greyBy (by omega), nI_clamp (by omega)]
  rfl
theorem m_greyAt (hi : Bi (m.1 1) nc nr nk nl) {c s : Nat} (hc : c < nk) (hs : s < nc) (y : Int32) : F_X11_greyAt m (nI c) (nI s) y = some (sGa (m.1 1) c s y) := by
  have := hi.cnt
  unfold F_X11_greyAt f_X11_greyAt_28 sGa
  rw [m_clerk2 (by omega), Option.bind_some, m_clerk0 (by omega), Option.bind_some, m_greyBy (by omega), m_greyBy (by omega)]
  by_cases e : m.1 1 (27 + 7 * c) = nI s
  · rw [if_pos e, if_pos e.symm]; rfl
  · rw [if_neg e, if_neg (fun q => e q.symm)]; rfl
theorem sGb_small {g s y : Nat} (hi : Bi a nc nr nk nl) (hg : g ≤ 99) (hs : s < nc) (hy : y ≤ 1000) : ∃ v, v ≤ 99 ∧ sGb a (nI g) s (nI y) = nI v := by
  obtain ⟨q, hq, eq⟩ := hi.still hs
  unfold sGb
  rw [eq, nI_mul, nI_add]
  have h2 : y * q ≤ 1000 * 9 := Nat.mul_le_mul hy hq
  exact ⟨min 99 (g + y * q), by omega, imin_nI (a := 99) (by omega) (by omega)⟩
theorem sGt_small (hi : Bi a nc nr nk nl) {c y : Nat} (hc : c < nk) (hy : y ≤ 1000) : ∃ v, v ≤ 99 ∧ sGt a c (nI y) = nI v := by
  have := hi.cnt
  obtain ⟨s, hs, es⟩ := hi.seat hc
  obtain ⟨g, hg, eg⟩ := hi.grey hc
  unfold sGt
  rw [es, eg, nI_clamp (by omega)]
  exact sGb_small hi hg hs hy
theorem nI_half {g : Nat} (hg : g < 2147483648) : nI g / (2 : Int32) = nI (g / 2) := by
  exact pk_div (a := g) (d := 2) (by omega) (by omega) (by omega)
theorem sGa_small (hi : Bi a nc nr nk nl) {c s y : Nat} (hc : c < nk) (hs : s < nc) (hy : y ≤ 1000) : ∃ v, v ≤ 99 ∧ sGa a c s (nI y) = nI v := by
  obtain ⟨g, hg, eg⟩ := hi.grey hc
  unfold sGa
  rw [eg]
  by_cases e : a (27 + 7 * c) = nI s
  · rw [if_pos e]; exact sGb_small hi hg hs hy
  · rw [if_neg e, nI_half (by omega)]; exact sGb_small hi (by omega) hs hy
end
