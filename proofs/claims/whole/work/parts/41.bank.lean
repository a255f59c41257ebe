/-! The bank of both: one picture, and what is read off it. -/
/-- class's name and model's name come of one word -/
def nmC : List Nat → Nat
  | [] => 0
  | c :: l => nmC l * 32 + c
def nmM : List Nat → Nat
  | [] => 0
  | c :: l => nmM l * 256 + (c + 96)
def nmR (x y : Int64) : Prop := ∃ l : List Nat, l.length ≤ 8 ∧ (∀ c ∈ l, 1 ≤ c ∧ c ≤ 26) ∧ x = Int64.ofNat (nmC l) ∧ y = Int64.ofNat (nmM l)
/-- the class's bank (a world of 13 cells) shows what stands in the reference's row a -/
def Bq (w : GW) (a : Nat → Int32) (nm : Nat → Int64) (nc nr nk nl : Nat) : Prop :=
  (w.1 0 0 = a 4 ∧ w.1 0 1 = a 5 ∧ w.1 0 2 = a 6) ∧
  (w.1 0 3 = nI nc ∧ w.1 0 4 = nI nr ∧ w.1 0 5 = nI nk ∧ w.1 0 6 = nI nl) ∧
  (∀ k, k < nc → w.1 1 k = a (10 + k)) ∧
  (∀ k, k < nr → w.1 2 k = a (17 + 2 * k) ∧ w.1 3 k = a (17 + 2 * k + 1)) ∧
  (∀ k, k < nk → nmR (w.2 4 k) (nm k)) ∧
  (∀ k, k < nk → w.1 5 k = a (27 + 7 * k) ∧ w.1 6 k = a (27 + 7 * k + 1) ∧ w.1 7 k = a (27 + 7 * k + 2) ∧ w.1 8 k = a (27 + 7 * k + 3) ∧ w.1 9 k = a (27 + 7 * k + 5) ∧ w.1 10 k = a (27 + 7 * k + 6)) ∧
  (∀ k, k < nl → w.1 11 k = a (69 + 2 * k) ∧ w.1 12 k = a (69 + 2 * k + 1))
/-- what holds of the row itself -/
def Bi (a : Nat → Int32) (nc nr nk nl : Nat) : Prop :=
  (a 0 = nI nc ∧ a 1 = nI nr ∧ a 2 = nI nk ∧ a 3 = nI nl) ∧ (nc ≤ 7 ∧ nr ≤ 5 ∧ nk ≤ 6 ∧ nl ≤ 8) ∧
  (∃ o, o ≤ 16 ∧ a 4 = nI o) ∧ (∃ c, c ≤ 9999 ∧ a 5 = nI c) ∧
  (∀ k, k < nc → ∃ s, s ≤ 9 ∧ a (10 + k) = nI s) ∧
  (∀ k, k < nr → (∃ p, p ≤ 99 ∧ a (17 + 2 * k) = nI p) ∧ ∃ p, p ≤ 50 ∧ a (17 + 2 * k + 1) = nI p) ∧
  (∀ k, k < nk → (∃ s, s < nc ∧ a (27 + 7 * k) = nI s) ∧ (∃ g, g ≤ 99 ∧ a (27 + 7 * k + 2) = nI g) ∧ ∃ s, s ≤ 99 ∧ a (27 + 7 * k + 3) = nI s) ∧
  (∀ j k, j < nk → k < nk → a (27 + 7 * j) = a (27 + 7 * k) → j = k) ∧
  (∀ k, k < nl → (∃ s, 1 ≤ s ∧ s ≤ 99 ∧ a (69 + 2 * k) = nI s) ∧ ∃ v, v ≤ 999 ∧ a (69 + 2 * k + 1) = nI v)
section
variable {w m : GW} {a : Nat → Int32} {nm : Nat → Int64} {nc nr nk nl : Nat}
theorem Bi.cnt (h : Bi a nc nr nk nl) : nc ≤ 7 ∧ nr ≤ 5 ∧ nk ≤ 6 ∧ nl ≤ 8 := h.2.1
theorem Bi.n0 (h : Bi a nc nr nk nl) : a 0 = nI nc := h.1.1
theorem Bi.n1 (h : Bi a nc nr nk nl) : a 1 = nI nr := h.1.2.1
theorem Bi.n2 (h : Bi a nc nr nk nl) : a 2 = nI nk := h.1.2.2.1
theorem Bi.n3 (h : Bi a nc nr nk nl) : a 3 = nI nl := h.1.2.2.2
theorem Bi.odds (h : Bi a nc nr nk nl) : ∃ o, o ≤ 16 ∧ a 4 = nI o := h.2.2.1
theorem Bi.cash (h : Bi a nc nr nk nl) : ∃ c, c ≤ 9999 ∧ a 5 = nI c := h.2.2.2.1
theorem Bi.still (h : Bi a nc nr nk nl) {k : Nat} (hk : k < nc) : ∃ s, s ≤ 9 ∧ a (10 + k) = nI s := h.2.2.2.2.1 k hk
theorem Bi.at (h : Bi a nc nr nk nl) {k : Nat} (hk : k < nr) : ∃ p, p ≤ 99 ∧ a (17 + 2 * k) = nI p := (h.2.2.2.2.2.1 k hk).1
theorem Bi.pay (h : Bi a nc nr nk nl) {k : Nat} (hk : k < nr) : ∃ p, p ≤ 50 ∧ a (17 + 2 * k + 1) = nI p := (h.2.2.2.2.2.1 k hk).2
theorem Bi.seat (h : Bi a nc nr nk nl) {k : Nat} (hk : k < nk) : ∃ s, s < nc ∧ a (27 + 7 * k) = nI s := (h.2.2.2.2.2.2.1 k hk).1
theorem Bi.grey (h : Bi a nc nr nk nl) {k : Nat} (hk : k < nk) : ∃ s, s ≤ 99 ∧ a (27 + 7 * k + 2) = nI s := (h.2.2.2.2.2.2.1 k hk).2.1
theorem Bi.sham (h : Bi a nc nr nk nl) {k : Nat} (hk : k < nk) : ∃ s, s ≤ 99 ∧ a (27 + 7 * k + 3) = nI s := (h.2.2.2.2.2.2.1 k hk).2.2
theorem Bi.apart (h : Bi a nc nr nk nl) {j k : Nat} (hj : j < nk) (hk : k < nk) (e : a (27 + 7 * j) = a (27 + 7 * k)) : j = k := h.2.2.2.2.2.2.2.1 j k hj hk e
theorem Bi.sum (h : Bi a nc nr nk nl) {k : Nat} (hk : k < nl) : ∃ s, 1 ≤ s ∧ s ≤ 99 ∧ a (69 + 2 * k) = nI s := (h.2.2.2.2.2.2.2.2 k hk).1
theorem Bi.nerve (h : Bi a nc nr nk nl) {k : Nat} (hk : k < nl) : ∃ s, s ≤ 999 ∧ a (69 + 2 * k + 1) = nI s := (h.2.2.2.2.2.2.2.2 k hk).2
theorem Bq.odds (h : Bq w a nm nc nr nk nl) : w.1 0 0 = a 4 := h.1.1
theorem Bq.cash (h : Bq w a nm nc nr nk nl) : w.1 0 1 = a 5 := h.1.2.1
theorem Bq.year (h : Bq w a nm nc nr nk nl) : w.1 0 2 = a 6 := h.1.2.2
theorem Bq.n0 (h : Bq w a nm nc nr nk nl) : w.1 0 3 = nI nc := h.2.1.1
theorem Bq.n1 (h : Bq w a nm nc nr nk nl) : w.1 0 4 = nI nr := h.2.1.2.1
theorem Bq.n2 (h : Bq w a nm nc nr nk nl) : w.1 0 5 = nI nk := h.2.1.2.2.1
theorem Bq.n3 (h : Bq w a nm nc nr nk nl) : w.1 0 6 = nI nl := h.2.1.2.2.2
theorem Bq.still (h : Bq w a nm nc nr nk nl) {k : Nat} (hk : k < nc) : w.1 1 k = a (10 + k) := h.2.2.1 k hk
theorem Bq.at (h : Bq w a nm nc nr nk nl) {k : Nat} (hk : k < nr) : w.1 2 k = a (17 + 2 * k) := (h.2.2.2.1 k hk).1
theorem Bq.pay (h : Bq w a nm nc nr nk nl) {k : Nat} (hk : k < nr) : w.1 3 k = a (17 + 2 * k + 1) := (h.2.2.2.1 k hk).2
theorem Bq.name (h : Bq w a nm nc nr nk nl) {k : Nat} (hk : k < nk) : nmR (w.2 4 k) (nm k) := h.2.2.2.2.1 k hk
theorem Bq.seat (h : Bq w a nm nc nr nk nl) {k : Nat} (hk : k < nk) : w.1 5 k = a (27 + 7 * k) := (h.2.2.2.2.2.1 k hk).1
theorem Bq.served (h : Bq w a nm nc nr nk nl) {k : Nat} (hk : k < nk) : w.1 6 k = a (27 + 7 * k + 1) := (h.2.2.2.2.2.1 k hk).2.1
theorem Bq.grey (h : Bq w a nm nc nr nk nl) {k : Nat} (hk : k < nk) : w.1 7 k = a (27 + 7 * k + 2) := (h.2.2.2.2.2.1 k hk).2.2.1
theorem Bq.sham (h : Bq w a nm nc nr nk nl) {k : Nat} (hk : k < nk) : w.1 8 k = a (27 + 7 * k + 3) := (h.2.2.2.2.2.1 k hk).2.2.2.1
theorem Bq.paid (h : Bq w a nm nc nr nk nl) {k : Nat} (hk : k < nk) : w.1 9 k = a (27 + 7 * k + 5) := (h.2.2.2.2.2.1 k hk).2.2.2.2.1
theorem Bq.unpaid (h : Bq w a nm nc nr nk nl) {k : Nat} (hk : k < nk) : w.1 10 k = a (27 + 7 * k + 6) := (h.2.2.2.2.2.1 k hk).2.2.2.2.2
theorem Bq.sum (h : Bq w a nm nc nr nk nl) {k : Nat} (hk : k < nl) : w.1 11 k = a (69 + 2 * k) := (h.2.2.2.2.2.2 k hk).1
theorem Bq.nerve (h : Bq w a nm nc nr nk nl) {k : Nat} (hk : k < nl) : w.1 12 k = a (69 + 2 * k + 1) := (h.2.2.2.2.2.2 k hk).2
/-! has .. -/
theorem x_hasCorner (h : Bq w a nm nc nr nk nl) (hi : Bi a nc nr nk nl) (x : Int32) : F_X0_hasCorner w x = some (if gin x nc then 1 else 0) := by
  have := hi.cnt
  unfold F_X0_hasCorner
  rw [h.n0]
  exact has_iff x nc (by omega)
theorem x_hasRank (h : Bq w a nm nc nr nk nl) (hi : Bi a nc nr nk nl) (x : Int32) : F_X0_hasRank w x = some (if gin x nr then 1 else 0) := by
  have := hi.cnt
  unfold F_X0_hasRank
  rw [h.n1]
  exact has_iff x nr (by omega)
theorem x_hasClerk (h : Bq w a nm nc nr nk nl) (hi : Bi a nc nr nk nl) (x : Int32) : F_X0_hasClerk w x = some (if gin x nk then 1 else 0) := by
  have := hi.cnt
  unfold F_X0_hasClerk
  rw [h.n2]
  exact has_iff x nk (by omega)
theorem x_hasClient (h : Bq w a nm nc nr nk nl) (hi : Bi a nc nr nk nl) (x : Int32) : F_X0_hasClient w x = some (if gin x nl then 1 else 0) := by
  have := hi.cnt
  unfold F_X0_hasClient
  rw [h.n3]
  exact has_iff x nl (by omega)
theorem m_isCorner (hi : Bi (m.1 1) nc nr nk nl) (x : Int32) : F_X11_isCorner m x = some (if gin x nc then 1 else 0) := by
  have := hi.cnt
  unfold F_X11_isCorner
  rw [hi.n0]
  exact has_iff x nc (by omega)
theorem m_isRank (hi : Bi (m.1 1) nc nr nk nl) (x : Int32) : F_X11_isRank m x = some (if gin x nr then 1 else 0) := by
  have := hi.cnt
  unfold F_X11_isRank
  rw [hi.n1]
  exact has_iff x nr (by omega)
theorem m_isClerk (hi : Bi (m.1 1) nc nr nk nl) (x : Int32) : F_X11_isClerk m x = some (if gin x nk then 1 else 0) := by
  have := hi.cnt
  unfold F_X11_isClerk
  rw [hi.n2]
  exact has_iff x nk (by omega)
/-! who sits there -/
theorem x_sitter_l (h : Bq w a nm nc nr nk nl) (hi : Bi a nc nr nk nl) (x : Int32) : ∀ k n i, i + k = nk → k < n → f_X0_sitterIn_2 w n x (nI i) = some (fi (fun c => a (27 + 7 * c) = x) i k) := by
  have := hi.cnt
  intro k
  induction k with
  | zero =>
    intro n i e hn
    obtain ⟨n, rfl⟩ := fu_pos hn
    show b_X0_sitterIn_2 _ w x (nI i) = _
    unfold b_X0_sitterIn_2
    rw [h.n2, if_pos (nI_le (by omega) (by omega))]
    rfl
  | succ k ih =>
    intro n i e hn
    obtain ⟨n, rfl⟩ := fu_pos hn
    show b_X0_sitterIn_2 _ w x (nI i) = some (if a (27 + 7 * i) = x then nI i else fi (fun c => a (27 + 7 * c) = x) (i + 1) k)
    unfold b_X0_sitterIn_2
    rw [h.n2, if_neg (nI_ge (by omega) (by omega)), if_pos (gin_nI (by omega) (by omega)), nI_clamp (by omega), h.seat (by omega), nI_1, ih n (i + 1) (by omega) (by omega)]
    by_cases hp : a (27 + 7 * i) = x
    · rw [if_pos hp, if_pos hp]
    · rw [if_neg hp, if_neg hp]
theorem x_sitter (h : Bq w a nm nc nr nk nl) (hi : Bi a nc nr nk nl) (x : Int32) : F_X0_sitterIn w x = some (fi (fun c => a (27 + 7 * c) = x) 0 nk) := by
  have := hi.cnt
  exact x_sitter_l h hi x nk FU 0 (by omega) (by have := FU_big; omega)
end
section
variable {w m : GW} {a : Nat → Int32} {nm : Nat → Int64} {nc nr nk nl : Nat}
theorem m_clerkRow (c : Nat) : F_X11_clerkRow (nI c) = some (nI (27 + 7 * c)) := by
  unfold F_X11_clerkRow
  rw [nq_Lmul, nq_Ladd]
theorem m_rankRow (c : Nat) : F_X11_rankRow (nI c) = some (nI (17 + 2 * c)) := by
  unfold F_X11_rankRow
  rw [nq_Lmul, nq_Ladd]
theorem m_clientRow (c : Nat) : F_X11_clientRow (nI c) = some (nI (69 + 2 * c)) := by
  unfold F_X11_clientRow
  rw [nq_Lmul, nq_Ladd]
theorem m_clerkOf {c j : Nat} (hc : c < 64) (hj : j < 64) : F_X11_clerkOf m (nI c) (nI j) = some (m.1 1 (27 + 7 * c + j)) := by
  unfold F_X11_clerkOf
  rw [m_clerkRow, Option.bind_some, nI_add, if_pos (gin_nI (by omega) (by omega)), nI_clamp (by omega)]
theorem m_clerk0 {c : Nat} (hc : c < 64) : F_X11_clerkOf m (nI c) (0 : Int32) = some (m.1 1 (27 + 7 * c)) := m_clerkOf hc (j := 0) (by omega)
theorem m_clerk2 {c : Nat} (hc : c < 64) : F_X11_clerkOf m (nI c) (2 : Int32) = some (m.1 1 (27 + 7 * c + 2)) := m_clerkOf hc (j := 2) (by omega)
theorem m_clerk3 {c : Nat} (hc : c < 64) : F_X11_clerkOf m (nI c) (3 : Int32) = some (m.1 1 (27 + 7 * c + 3)) := m_clerkOf hc (j := 3) (by omega)
theorem m_stillOf {c : Nat} (hc : c < 64) : F_X11_stillOf m (nI c) = some (m.1 1 (10 + c)) := by
  unfold F_X11_stillOf
  rw [nq_Ladd, if_pos (gin_nI (by show 10 + c < 2356; omega) (by omega)), nI_clamp (by show 10 + c < _; omega)]
theorem m_sitter_l {s : Nat} (hs : s ≤ 1816) (ha : ∀ k, k < 454 → m.1 1 (s + k) = a k) (hi : Bi a nc nr nk nl) (x : Int32) : ∀ k n i, i + k = nk → k < n → f_X11_sitterIn_2 m n (nI s) x (nI i) = some (fi (fun c => a (27 + 7 * c) = x) i k) := by
  have := hi.cnt
  intro k
  induction k with
  | zero =>
    intro n i e hn
    obtain ⟨n, rfl⟩ := fu_pos hn
    show b_X11_sitterIn_2 _ m (nI s) x (nI i) = _
    unfold b_X11_sitterIn_2
    rw [nq_addL, if_pos (gin_nI (by show s + 2 < 2356; omega) (by omega)), nI_clamp (by show s + 2 < _; omega), ha 2 (by omega), hi.n2, if_pos (nI_le (by omega) (by omega))]
    rfl
  | succ k ih =>
    intro n i e hn
    obtain ⟨n, rfl⟩ := fu_pos hn
    show b_X11_sitterIn_2 _ m (nI s) x (nI i) = some (if a (27 + 7 * i) = x then nI i else fi (fun c => a (27 + 7 * c) = x) (i + 1) k)
    unfold b_X11_sitterIn_2
    rw [nq_addL, if_pos (gin_nI (by show s + 2 < 2356; omega) (by omega)), nI_clamp (by show s + 2 < _; omega), ha 2 (by omega), hi.n2, if_neg (nI_ge (by omega) (by omega)), m_clerkRow, Option.bind_some, nI_add, if_pos (gin_nI (by omega) (by omega)), nI_clamp (by omega), ha _ (by omega), nI_1, ih n (i + 1) (by omega) (by omega)]
    by_cases hp : a (27 + 7 * i) = x
    · rw [if_pos hp, if_pos hp]
    · rw [if_neg hp, if_neg hp]
theorem m_sitter (hi : Bi (m.1 1) nc nr nk nl) (x : Int32) : F_X11_sitterIn m (0 : Int32) x = some (fi (fun c => m.1 1 (27 + 7 * c) = x) 0 nk) := by
  have := hi.cnt
  exact m_sitter_l (s := 0) (by omega) (fun k _ => by rw [Nat.zero_add]) hi x nk FU 0 (by omega) (by have := FU_big; omega)
theorem gin_neg {n : Nat} : ¬ gin (-1 : Int32) n := fun h => h (Or.inl (by decide))
/-! looks, ranks, pay -/
def sLk (a : Nat → Int32) (c : Nat) : Int32 := imin (99 : Int32) (a (27 + 7 * c + 2) + a (27 + 7 * c + 3))
def sRb (a : Nat → Int32) (nr : Nat) (x : Int32) : Int32 := fo (fun r b => if x < a (17 + 2 * r) then b else nI r) 0 nr (-1)
def sPb (a : Nat → Int32) (nr : Nat) (x : Int32) : Int32 := if sRb a nr x = (-1 : Int32) then 0 else a (17 + 2 * (sRb a nr x).toNatClampNeg + 1)
theorem x_looksBy (x y : Int32) : F_X10_looksBy x y = some (imin (99 : Int32) (x + y)) := by
  unfold F_X10_looksBy
  rw [imin_99]
  split <;> rfl
theorem x_greyGrown (x y z : Int32) : F_X10_greyGrown x y z = some (imin (99 : Int32) (x + y * z)) := by
  unfold F_X10_greyGrown
  rw [imin_99]
  split <;> rfl
theorem x_looksOf (h : Bq w a nm nc nr nk nl) (hi : Bi a nc nr nk nl) {c : Nat} (hc : c < nk) : F_X0_looksOf w (nI c) = some (sLk a c) := by
  have := hi.cnt
  unfold F_X0_looksOf
  rw [x_hasClerk h hi, if_pos (gin_nI hc (by omega)), Option.bind_some, if_neg (by decide), if_pos (gin_nI (by omega) (by omega)), nI_clamp (by omega), h.grey hc, h.sham hc, x_looksBy]
  rfl
theorem m_looksOf {c : Nat} (hc : c < 64) : F_X11_looksOf m (nI c) = some (sLk (m.1 1) c) := by
  unfold F_X11_looksOf
  rw [m_clerk2 hc, Option.bind_some, m_clerk3 hc]
  rfl
theorem x_rankBy_l (h : Bq w a nm nc nr nk nl) (hi : Bi a nc nr nk nl) (x : Int32) : ∀ k n i b, i + k = nr → k < n → f_X0_rankBy_4 w n x b (nI i) = some (fo (fun r b => if x < a (17 + 2 * r) then b else nI r) i k b) := by
  have := hi.cnt
  intro k
  induction k with
  | zero =>
    intro n i b e hn
    obtain ⟨n, rfl⟩ := fu_pos hn
    show b_X0_rankBy_4 _ w x b (nI i) = _
    unfold b_X0_rankBy_4
    rw [h.n1, if_pos (nI_le (by omega) (by omega))]
    rfl
  | succ k ih =>
    intro n i b e hn
    obtain ⟨n, rfl⟩ := fu_pos hn
    show b_X0_rankBy_4 _ w x b (nI i) = some (fo _ (i + 1) k (if x < a (17 + 2 * i) then b else nI i))
    unfold b_X0_rankBy_4 f_X0_rankBy_24
    rw [h.n1, if_neg (nI_ge (by omega) (by omega)), if_pos (gin_nI (by omega) (by omega)), nI_clamp (by omega), h.at (by omega), nI_1, ih n (i + 1) _ (by omega) (by omega), ih n (i + 1) _ (by omega) (by omega)]
    by_cases hp : x < a (17 + 2 * i)
    · rw [if_pos hp, if_pos hp]
    · rw [if_neg hp, if_neg hp]
theorem x_rankBy (h : Bq w a nm nc nr nk nl) (hi : Bi a nc nr nk nl) (x : Int32) : F_X0_rankBy w x = some (sRb a nr x) := by
  have := hi.cnt
  exact x_rankBy_l h hi x nr FU 0 (-1) (by omega) (by have := FU_big; omega)
theorem m_rankBy_l (hi : Bi (m.1 1) nc nr nk nl) (x : Int32) : ∀ k n i b, i + k = nr → k < n → f_X11_rankBy_4 m n x b (nI i) = some (fo (fun r b => if x < m.1 1 (17 + 2 * r) then b else nI r) i k b) := by
  have := hi.cnt
  intro k
  induction k with
  | zero =>
    intro n i b e hn
    obtain ⟨n, rfl⟩ := fu_pos hn
    show b_X11_rankBy_4 _ m x b (nI i) = _
    unfold b_X11_rankBy_4
    rw [hi.n1, if_pos (nI_le (by omega) (by omega))]
    rfl
  | succ k ih =>
    intro n i b e hn
    obtain ⟨n, rfl⟩ := fu_pos hn
    show b_X11_rankBy_4 _ m x b (nI i) = some (fo _ (i + 1) k (if x < m.1 1 (17 + 2 * i) then b else nI i))
    unfold b_X11_rankBy_4 f_X11_rankBy_29
    rw [hi.n1, if_neg (nI_ge (by omega) (by omega)), m_rankRow, Option.bind_some, if_pos (gin_nI (by omega) (by omega)), nI_clamp (by omega), nI_1, ih n (i + 1) _ (by omega) (by omega), ih n (i + 1) _ (by omega) (by omega)]
    by_cases hp : x < m.1 1 (17 + 2 * i)
    · rw [if_pos hp, if_pos hp]
    · rw [if_neg hp, if_neg hp]
theorem m_rankBy (hi : Bi (m.1 1) nc nr nk nl) (x : Int32) : F_X11_rankBy m x = some (sRb (m.1 1) nr x) := by
  have := hi.cnt
  exact m_rankBy_l hi x nr FU 0 (-1) (by omega) (by have := FU_big; omega)
theorem sRb_cases (a : Nat → Int32) (nr : Nat) (x : Int32) : sRb a nr x = (-1 : Int32) ∨ ∃ r, r < nr ∧ sRb a nr x = nI r := by
  have h := fo_ind (fun r b => if x < a (17 + 2 * r) then b else nI r) (fun i b => b = (-1 : Int32) ∨ ∃ r, r < i ∧ b = nI r) nr 0 (-1) (Or.inl rfl) (fun k t _ _ ht => by
    show (if x < a (17 + 2 * k) then t else nI k) = -1 ∨ ∃ r, r < k + 1 ∧ (if x < a (17 + 2 * k) then t else nI k) = nI r
    by_cases hp : x < a (17 + 2 * k)
    · rw [if_pos hp]
      rcases ht with h | ⟨r, h1, h2⟩
      · exact Or.inl h
      · exact Or.inr ⟨r, by omega, h2⟩
    · rw [if_neg hp]
      exact Or.inr ⟨k, by omega, rfl⟩)
  rw [Nat.zero_add] at h
  exact h
theorem x_payBy (h : Bq w a nm nc nr nk nl) (hi : Bi a nc nr nk nl) (x : Int32) : F_X0_payBy w x = some (sPb a nr x) := by
  have := hi.cnt
  unfold F_X0_payBy sPb
  rw [x_rankBy h hi, Option.bind_some, x_hasRank h hi, Option.bind_some]
  rcases sRb_cases a nr x with e | ⟨r, hr, e⟩
  · rw [e, if_neg gin_neg, if_pos rfl, if_pos rfl]
  · rw [e, if_pos (gin_nI hr (by omega)), if_neg (by decide), if_pos (gin_nI (by omega) (by omega)), nI_clamp (by omega), if_neg (nI_nm (by omega)), h.pay hr]
theorem m_payBy (hi : Bi (m.1 1) nc nr nk nl) (x : Int32) : F_X11_payBy m x = some (sPb (m.1 1) nr x) := by
  have := hi.cnt
  unfold F_X11_payBy sPb
  rw [m_rankBy hi, Option.bind_some]
  rcases sRb_cases (m.1 1) nr x with e | ⟨r, hr, e⟩
  · rw [e, if_pos rfl, if_pos rfl]
  · rw [e, if_neg (nI_nm (by omega)), m_rankRow, Option.bind_some, nI_1, if_pos (gin_nI (by omega) (by omega)), nI_clamp (by omega), if_neg (nI_nm (by omega)), nI_clamp (by omega)]
theorem sPb_small (hi : Bi a nc nr nk nl) (x : Int32) : ∃ p, p ≤ 50 ∧ sPb a nr x = nI p := by
  have := hi.cnt
  unfold sPb
  rcases sRb_cases a nr x with e | ⟨r, hr, e⟩
  · exact ⟨0, by omega, by rw [if_pos e]; rfl⟩
  · rw [e, if_neg (nI_nm (by omega)), nI_clamp (by omega)]
    exact hi.pay hr
theorem sLk_small (hi : Bi a nc nr nk nl) {c : Nat} (hc : c < nk) : ∃ g, g ≤ 99 ∧ sLk a c = nI g := by
  obtain ⟨g, hg, eg⟩ := hi.grey hc
  obtain ⟨s, hs, es⟩ := hi.sham hc
  unfold sLk
  rw [eg, es, nI_add]
  exact ⟨min 99 (g + s), by omega, imin_nI (a := 99) (by omega) (by omega)⟩
end
