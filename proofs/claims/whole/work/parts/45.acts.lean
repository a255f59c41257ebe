/-! Years, moves, swaps, fans, dust, looks, on both sides. -/
def aYg (nr nk : Nat) (t : Int32 × (Nat → Int32)) : Int32 × (Nat → Int32) := (t.1 + (aYr nr 0 nk (0, t.2)).1, (aYr nr 0 nk (0, t.2)).2)
def aYn (nr nk i k : Nat) (t : Int32 × (Nat → Int32)) : Int32 × (Nat → Int32) := fo (fun _ => aYg nr nk) i k t
def aSit (a : Nat → Int32) (c : Nat) (x : Int32) : Nat → Int32 := upd (upd (upd a (27 + 7 * c) x) (27 + 7 * c + 2) (a (27 + 7 * c + 2) / (2 : Int32))) (27 + 7 * c + 3) 0
def aSw (a : Nat → Int32) (c o : Nat) : Nat → Int32 := aSit (aSit a c (a (27 + 7 * o))) o (a (27 + 7 * c))
section
variable {w m : GW} {a : Nat → Int32} {nm : Nat → Int64} {nc nr nk nl : Nat}
theorem Bi.yn {t : Int32 × (Nat → Int32)} (hi : Bi t.2 nc nr nk nl) (i k : Nat) : Bi (aYn nr nk i k t).2 nc nr nk nl :=
  fo_ind (fun _ => aYg nr nk) (fun _ t => Bi t.2 nc nr nk nl) k i t hi (fun _ t _ _ h => Bi.yr (a := t.2) h 0)
theorem x_years_l (y : Nat) (hy : y < 1000000) : ∀ k n i t (w : GW) (a : Nat → Int32), Bq w a nm nc nr nk nl → Bi a nc nr nk nl → i + k = y → k < n → ∃ w', f_X0_passYears_18 n (nI y) t (nI i) w = some ((aYn nr nk i k (t, a)).1, w') ∧ Bq w' (aYn nr nk i k (t, a)).2 nm nc nr nk nl := by
  intro k
  induction k with
  | zero =>
    intro n i t w a h hi e hn
    obtain ⟨n, rfl⟩ := fu_pos hn
    refine ⟨w, ?_, h⟩
    show b_X0_passYears_18 _ (nI y) t (nI i) w = _
    unfold b_X0_passYears_18
    rw [if_pos (nI_le (by omega) (by omega))]
    rfl
  | succ k ih =>
    intro n i t w a h hi e hn
    obtain ⟨n, rfl⟩ := fu_pos hn
    obtain ⟨w1, e1, h1⟩ := x_year h hi
    obtain ⟨w', e2, h2⟩ := ih n (i + 1) (t + (aYr nr 0 nk (0, a)).1) w1 _ h1 (hi.yr 0) (by omega) (by omega)
    refine ⟨w', ?_, h2⟩
    show b_X0_passYears_18 _ (nI y) t (nI i) w = _
    unfold b_X0_passYears_18
    rw [if_neg (nI_ge (by omega) (by omega)), e1, Option.bind_some, nI_1, e2]
    rfl
theorem m_years_l (y : Nat) (hy : y < 1000000) : ∀ k n i t (a : Nat → Int32), Bi a nc nr nk nl → i + k = y → k < n → f_X11_yearsGo_4 n (nI y) t (nI i) (pA m a) = some ((aYn nr nk i k (t, a)).1, pA m (aYn nr nk i k (t, a)).2) := by
  intro k
  induction k with
  | zero =>
    intro n i t a hi e hn
    obtain ⟨n, rfl⟩ := fu_pos hn
    show b_X11_yearsGo_4 _ (nI y) t (nI i) (pA m a) = _
    unfold b_X11_yearsGo_4
    rw [if_pos (nI_le (by omega) (by omega))]
    rfl
  | succ k ih =>
    intro n i t a hi e hn
    obtain ⟨n, rfl⟩ := fu_pos hn
    show b_X11_yearsGo_4 _ (nI y) t (nI i) (pA m a) = _
    unfold b_X11_yearsGo_4
    rw [if_neg (nI_ge (by omega) (by omega)), m_year hi, Option.bind_some, nI_1, ih n (i + 1) _ _ (hi.yr 0) (by omega) (by omega)]
    rfl
theorem m_years (hi : Bi a nc nr nk nl) {y : Nat} (hy : y < 1000000) : F_X11_yearsGo (nI y) (pA m a) = some ((aYn nr nk 0 y (0, a)).1, pA m (aYn nr nk 0 y (0, a)).2) :=
  m_years_l y hy y FU 0 0 a hi (by omega) (by have := FU_big; omega)
theorem x_years (h : Bq w a nm nc nr nk nl) (hi : Bi a nc nr nk nl) {y : Nat} (hy : y < 1000000) : ∃ w', f_X0_passYears_18 FU (nI y) 0 0 w = some ((aYn nr nk 0 y (0, a)).1, w') ∧ Bq w' (aYn nr nk 0 y (0, a)).2 nm nc nr nk nl :=
  x_years_l y hy y FU 0 0 w a h hi (by omega) (by have := FU_big; omega)
/-! how much is paid -/
theorem aYr_small (hi : Bi a nc nr nk nl) : ∃ r, r ≤ 50 * nk ∧ (aYr nr 0 nk (0, a)).1 = nI r := by
  have h := fo_ind (aYs nr) (fun i t => Bi t.2 nc nr nk nl ∧ ∃ r, r ≤ 50 * i ∧ t.1 = nI r) nk 0 (0, a) ⟨hi, 0, by omega, rfl⟩ (fun c t _ h2 ht => by
    obtain ⟨hb, r, hr, er⟩ := ht
    refine ⟨Bi.ys (a := t.2) hb (by omega) t.1, ?_⟩
    obtain ⟨p, hp, ep⟩ := sPb_small hb (sLk t.2 c)
    show ∃ r, r ≤ 50 * (c + 1) ∧ (if t.2 5 < sDue t.2 nr c then t.1 else t.1 + sDue t.2 nr c) = nI r
    by_cases hd : t.2 5 < sDue t.2 nr c
    · rw [if_pos hd]; exact ⟨r, by omega, er⟩
    · rw [if_neg hd]
      refine ⟨r + p, by omega, ?_⟩
      rw [er, show sDue t.2 nr c = nI p from ep, nI_add])
  obtain ⟨_, r, hr, er⟩ := h
  exact ⟨r, by omega, er⟩
theorem aYn_small (hi : Bi a nc nr nk nl) (y : Nat) : ∃ r, r ≤ 50 * nk * y ∧ (aYn nr nk 0 y (0, a)).1 = nI r := by
  have h := fo_ind (fun _ => aYg nr nk) (fun i t => Bi t.2 nc nr nk nl ∧ ∃ r, r ≤ 50 * nk * i ∧ t.1 = nI r) y 0 (0, a) ⟨hi, 0, by omega, rfl⟩ (fun c t _ h2 ht => by
    obtain ⟨hb, r, hr, er⟩ := ht
    obtain ⟨p, hp, ep⟩ := aYr_small hb
    refine ⟨Bi.yr (a := t.2) hb 0, r + p, ?_, ?_⟩
    · rw [Nat.mul_succ]; omega
    · show t.1 + (aYr nr 0 nk (0, t.2)).1 = _
      rw [er, ep, nI_add])
  obtain ⟨_, r, hr, er⟩ := h
  rw [Nat.zero_add] at hr
  exact ⟨r, hr, er⟩
/-! what a year leaves as it is -/
theorem aYs_keep (t : Int32 × (Nat → Int32)) {c k : Nat} (hk : k ≤ 4 ∨ k = 6 ∨ k = 7 ∨ (8 ≤ k ∧ k < 27) ∨ 69 ≤ k) (hc : c < 6) : (aYs nr c t).2 k = t.2 k := by
  show upd (upd (aY1 t.2 nr c) _ _) _ _ k = t.2 k
  rw [pk_un (by omega), pk_un (by omega)]
  unfold aY1
  split
  · rw [pk_un (by omega)]
  · rw [pk_un (by omega), pk_un (by omega)]
theorem aYf_keep {k : Nat} (hk : k ≤ 4 ∨ k = 6 ∨ k = 7 ∨ (8 ≤ k ∧ k < 27) ∨ 69 ≤ k) (i n : Nat) (hn : i + n ≤ 6) (t : Int32 × (Nat → Int32)) : (fo (aYs nr) i n t).2 k = t.2 k :=
  fo_ind (aYs nr) (fun _ s => s.2 k = t.2 k) n i t rfl (fun c s _ h2 h => (aYs_keep s hk (by omega)).trans h)
theorem aYr_keep {k : Nat} (hk : k ≤ 4 ∨ k = 7 ∨ (8 ≤ k ∧ k < 27) ∨ 69 ≤ k) (h6 : nk ≤ 6) (t : Int32 × (Nat → Int32)) : (aYr nr 0 nk t).2 k = t.2 k := by
  show upd _ 6 _ k = _
  rw [pk_un (by omega)]
  exact aYf_keep (by omega) 0 nk (by omega) t
theorem aYr_year (h6 : nk ≤ 6) (t : Int32 × (Nat → Int32)) : (aYr nr 0 nk t).2 6 = t.2 6 + 1 := by
  unfold aYr
  dsimp only
  rw [pk_us, aYf_keep (by omega) 0 nk (by omega)]
theorem aYn_keep {k : Nat} (hk : k ≤ 4 ∨ k = 7 ∨ (8 ≤ k ∧ k < 27) ∨ 69 ≤ k) (h6 : nk ≤ 6) (i n : Nat) (t : Int32 × (Nat → Int32)) : (aYn nr nk i n t).2 k = t.2 k :=
  fo_ind (fun _ => aYg nr nk) (fun _ s => s.2 k = t.2 k) n i t rfl (fun c s _ h2 h => (aYr_keep hk h6 (0, s.2)).trans h)
theorem aYn_year (h6 : nk ≤ 6) (n : Nat) (t : Int32 × (Nat → Int32)) : (aYn nr nk 0 n t).2 6 = t.2 6 + nI n := by
  have h := fo_ind (fun _ => aYg nr nk) (fun i s => s.2 6 = t.2 6 + nI i) n 0 t (by rw [nI_0, Int32.add_zero]) (fun c s _ h2 h => by
    show (aYr nr 0 nk (0, s.2)).2 6 = _
    rw [aYr_year h6, show (0, s.2).2 6 = s.2 6 from rfl, h, nI_succ, Int32.add_assoc])
  rw [Nat.zero_add] at h
  exact h
/-! paid to all -/
theorem fo_shift (f : Nat → Int32) : ∀ k i t d, fo (fun j s => s + f j) i k (t + d) = fo (fun j s => s + f j) i k t + d := by
  intro k
  induction k with
  | zero => intro i t d; rfl
  | succ k ih =>
    intro i t d
    show fo (fun j s => s + f j) (i + 1) k (t + d + f i) = fo (fun j s => s + f j) (i + 1) k (t + f i) + d
    rw [Int32.add_assoc, Int32.add_comm d, ← Int32.add_assoc, ih]
theorem fo_bump {f g : Nat → Int32} {c : Nat} {d : Int32} (hc : g c = f c + d) (hne : ∀ j, j ≠ c → g j = f j) : ∀ k i t, i ≤ c → c < i + k → fo (fun j s => s + g j) i k t = fo (fun j s => s + f j) i k t + d := by
  intro k
  induction k with
  | zero => intro i t h1 h2; exact absurd h2 (by omega)
  | succ k ih =>
    intro i t h1 h2
    show fo (fun j s => s + g j) (i + 1) k (t + g i) = fo (fun j s => s + f j) (i + 1) k (t + f i) + d
    by_cases e : i = c
    · subst e
      rw [hc, ← Int32.add_assoc, ← fo_shift]
      exact fo_congr k (i + 1) _ (fun j h3 _ => by rw [hne j (by omega)])
    · rw [hne i e]
      exact ih (i + 1) _ (by omega) (by omega)
theorem sTot_congr {a b : Nat → Int32} {j : Nat} (h : ∀ c, c < nk → b (27 + 7 * c + j) = a (27 + 7 * c + j)) : sTot b nk j = sTot a nk j :=
  fo_congr nk 0 0 (fun c _ h2 => by rw [h c (by omega)])
theorem aYs_tot (t : Int32 × (Nat → Int32)) {c : Nat} (hc : c < nk) (h6 : nk ≤ 6) (p : Int32) (h : sTot t.2 nk 5 = p + t.1) : sTot (aYs nr c t).2 nk 5 = p + (aYs nr c t).1 := by
  have e : sTot (aYs nr c t).2 nk 5 = sTot (aY1 t.2 nr c) nk 5 := sTot_congr (fun k hk => by
    show upd (upd (aY1 t.2 nr c) _ _) _ _ (27 + 7 * k + 5) = _
    rw [pk_un (by omega), pk_un (by omega)])
  rw [e]
  show sTot (aY1 t.2 nr c) nk 5 = p + (if t.2 5 < sDue t.2 nr c then t.1 else t.1 + sDue t.2 nr c)
  unfold aY1
  by_cases hd : t.2 5 < sDue t.2 nr c
  · rw [if_pos hd, if_pos hd, ← h]
    exact sTot_congr (fun k hk => by rw [pk_un (by omega)])
  · rw [if_neg hd, if_neg hd, ← Int32.add_assoc, ← h]
    unfold sTot
    refine fo_bump (c := c) (f := fun k => t.2 (27 + 7 * k + 5)) (g := fun k => upd (upd t.2 5 (t.2 5 - sDue t.2 nr c)) (27 + 7 * c + 5) (t.2 (27 + 7 * c + 5) + sDue t.2 nr c) (27 + 7 * k + 5)) ?_ (fun j hj => ?_) nk 0 0 (by omega) (by omega)
    · exact pk_us
    · show upd (upd t.2 5 _) _ _ _ = _
      rw [pk_un (by omega), pk_un (by omega)]
theorem aYr_tot (h6 : nk ≤ 6) (a : Nat → Int32) : sTot (aYr nr 0 nk (0, a)).2 nk 5 = sTot a nk 5 + (aYr nr 0 nk (0, a)).1 := by
  have h := fo_ind (aYs nr) (fun _ t => sTot t.2 nk 5 = sTot a nk 5 + t.1) nk 0 (0, a) (Int32.add_zero _).symm (fun c t _ h2 h => aYs_tot t (by omega) h6 _ h)
  have e : sTot (aYr nr 0 nk (0, a)).2 nk 5 = sTot (fo (aYs nr) 0 nk (0, a)).2 nk 5 := sTot_congr (fun k hk => by
    show upd _ 6 _ _ = _
    rw [pk_un (by omega)])
  exact e.trans h
theorem aYn_tot (h6 : nk ≤ 6) (n : Nat) (a : Nat → Int32) : sTot (aYn nr nk 0 n (0, a)).2 nk 5 = sTot a nk 5 + (aYn nr nk 0 n (0, a)).1 := by
  refine fo_ind (fun _ => aYg nr nk) (fun _ t => sTot t.2 nk 5 = sTot a nk 5 + t.1) n 0 (0, a) (Int32.add_zero _).symm (fun c t _ h2 h => ?_)
  show sTot (aYr nr 0 nk (0, t.2)).2 nk 5 = sTot a nk 5 + (t.1 + (aYr nr 0 nk (0, t.2)).1)
  rw [aYr_tot h6, h, Int32.add_assoc]
/-! one sits elsewhere -/
theorem x_half (hn2 : w.1 0 5 = nI nk) (h6 : nk ≤ 6) {c : Nat} (hc : c < nk) : F_X0_loseHalf (nI c) w = some (gI (gI w 7 c (w.1 7 c / (2 : Int32))) 8 c 0) := by
  unfold F_X0_loseHalf F_X0_hasClerk
  rw [hn2, has_iff _ _ (by omega), if_pos (gin_nI hc (by omega)), Option.bind_some, if_neg (by decide), if_pos (gin_nI (by omega) (by omega)), nI_clamp (by omega)]
theorem half_small {x : Int32} (h : ∃ g, g ≤ 99 ∧ x = nI g) : ∃ g, g ≤ 99 ∧ x / (2 : Int32) = nI g := by
  obtain ⟨g, hg, e⟩ := h
  exact ⟨g / 2, by omega, by rw [e, nI_half (by omega)]⟩
theorem Bi.sit (hi : Bi a nc nr nk nl) {c : Nat} (hc : c < nk) {s : Nat} (hs : s < nc) (hne : ∀ k, k < nk → k ≠ c → a (27 + 7 * k) ≠ nI s) : Bi (aSit a c (nI s)) nc nr nk nl := by
  have hn := hi.cnt
  refine Bi.set_sham (Bi.set_grey (hi.set_seat hc ⟨s, hs, rfl⟩ hne) hc (half_small (hi.grey hc))) hc ⟨0, by omega, rfl⟩
theorem Bq.sit (h : Bq w a nm nc nr nk nl) (hi : Bi a nc nr nk nl) {c : Nat} (hc : c < nk) (x : Int32) : Bq (gI (gI (gI w 5 c x) 7 c (w.1 7 c / (2 : Int32))) 8 c 0) (aSit a c x) nm nc nr nk nl := by
  have hn := hi.cnt
  rw [h.grey hc]
  exact ((h.set_seat hn hc x).set_grey hn hc _).set_sham hn hc _
theorem m_sits {c : Nat} (hc : c < 6) (x : Int32) : F_X11_sits (nI c) x (pA m a) = some (pA m (aSit a c x)) := by
  unfold F_X11_sits
  rw [m_clerkRow, Option.bind_some, nq_addL, nq_addL, if_pos (gin_nI (by omega) (by omega)), if_pos (gin_nI (by show 27 + 7 * c + 2 < 2356; omega) (by omega)), if_pos (gin_nI (by show 27 + 7 * c + 3 < 2356; omega) (by omega)), nI_clamp (by omega), nI_clamp (n := 27 + 7 * c + 2) (by omega), nI_clamp (n := 27 + 7 * c + 3) (by omega)]
  simp only [gI_pA, pA_pA, pA_1]
  show some (pA m (upd (upd (upd a (27 + 7 * c) x) (27 + 7 * c + 2) (upd a (27 + 7 * c) x (27 + 7 * c + 2) / (2 : Int32))) (27 + 7 * c + 3) 0)) = _
  rw [pk_un (by omega)]
  rfl
theorem x_seatElse (h : Bq w a nm nc nr nk nl) (hi : Bi a nc nr nk nl) {c s : Nat} (hc : c < nk) (hs : s < nc) (hf : fi (fun k => a (27 + 7 * k) = nI s) 0 nk = (-1 : Int32)) : ∃ w', F_X0_seatElsewhere (nI c) (nI s) w = some (aSit a c (nI s) (27 + 7 * c + 2), w') ∧ Bq w' (aSit a c (nI s)) nm nc nr nk nl := by
  have hn := hi.cnt
  refine ⟨_, ?_, h.sit hi hc (nI s)⟩
  unfold F_X0_seatElsewhere
  rw [x_hasClerk h hi, if_pos (gin_nI hc (by omega)), Option.bind_some, if_neg (by decide), x_hasCorner h hi, if_pos (gin_nI hs (by omega)), Option.bind_some, if_neg (by decide), x_sitter h hi, hf, Option.bind_some, if_pos rfl, if_pos (gin_nI (by omega) (by omega)), nI_clamp (by omega), x_half (nk := nk) (by rw [gI_ne _ _ _ _ (by omega)]; exact h.n2) (by omega) hc, Option.bind_some]
  refine congrArg some (Prod.ext ?_ ?_)
  · show (gI (gI (gI w 5 c (nI s)) 7 c _) 8 c 0).1 7 c = aSit a c (nI s) (27 + 7 * c + 2)
    unfold aSit
    rw [gI_ne _ _ _ _ (by omega), gI_same, gI_ne _ _ _ _ (by omega), h.grey hc, pk_un (by omega), pk_us]
  · rfl
theorem x_seatElse_no (h : Bq w a nm nc nr nk nl) (hi : Bi a nc nr nk nl) {c s : Nat} (hc : c < nk) (hs : s < nc) (hf : fi (fun k => a (27 + 7 * k) = nI s) 0 nk ≠ (-1 : Int32)) : F_X0_seatElsewhere (nI c) (nI s) w = some ((-1 : Int32), w) := by
  have hn := hi.cnt
  unfold F_X0_seatElsewhere
  rw [x_hasClerk h hi, if_pos (gin_nI hc (by omega)), Option.bind_some, if_neg (by decide), x_hasCorner h hi, if_pos (gin_nI hs (by omega)), Option.bind_some, if_neg (by decide), x_sitter h hi, Option.bind_some, if_neg hf]
theorem m_moves (hi : Bi a nc nr nk nl) {c s : Nat} (hc : c < nk) : F_X11_moves (nI c) (nI s) (pA m a) = some (if fi (fun k => a (27 + 7 * k) = nI s) 0 nk = (-1 : Int32) then ((1 : Int32), pA m (aSit a c (nI s))) else ((0 : Int32), pA m a)) := by
  have hn := hi.cnt
  have hi' : Bi ((pA m a).1 1) nc nr nk nl := hi
  unfold F_X11_moves
  rw [m_sitter hi', Option.bind_some, m_sits (by omega), Option.bind_some, pA_1]
  split <;> rfl
theorem sit_free (hi : Bi a nc nr nk nl) {s : Nat} (hf : fi (fun k => a (27 + 7 * k) = nI s) 0 nk = (-1 : Int32)) : ∀ k, k < nk → a (27 + 7 * k) ≠ nI s := by
  have hn := hi.cnt
  rcases fi_cases (fun k => a (27 + 7 * k) = nI s) nk 0 (by omega) with ⟨_, h2⟩ | ⟨k, _, h2, h3, _⟩
  · exact fun k hk => h2 k (by omega) (by omega)
  · rw [hf] at h3
    exact absurd h3.symm (nI_nm (by omega))
/-! two swap -/
theorem Bi.sw (hi : Bi a nc nr nk nl) {c o : Nat} (hc : c < nk) (ho : o < nk) (hne : c ≠ o) : Bi (aSw a c o) nc nr nk nl := by
  have hn := hi.cnt
  obtain ⟨s, hs, es⟩ := hi.seat hc
  obtain ⟨t, ht, et⟩ := hi.seat ho
  refine ⟨?_, hi.cnt, ?_, ?_, fun k hk => ?_, fun k hk => ⟨?_, ?_⟩, fun k hk => ⟨?_, ?_, ?_⟩, fun j k hj hk e => ?_, fun k hk => ⟨?_, ?_⟩⟩
  · have keep : ∀ k, k < 27 → aSw a c o k = a k := fun k hk => by
      unfold aSw aSit
      rw [pk_un (by omega), pk_un (by omega), pk_un (by omega), pk_un (by omega), pk_un (by omega), pk_un (by omega)]
    exact ⟨(keep 0 (by omega)).trans hi.n0, (keep 1 (by omega)).trans hi.n1, (keep 2 (by omega)).trans hi.n2, (keep 3 (by omega)).trans hi.n3⟩
  · unfold aSw aSit; rw [pk_un (by omega), pk_un (by omega), pk_un (by omega), pk_un (by omega), pk_un (by omega), pk_un (by omega)]; exact hi.odds
  · unfold aSw aSit; rw [pk_un (by omega), pk_un (by omega), pk_un (by omega), pk_un (by omega), pk_un (by omega), pk_un (by omega)]; exact hi.cash
  · unfold aSw aSit; rw [pk_un (by omega), pk_un (by omega), pk_un (by omega), pk_un (by omega), pk_un (by omega), pk_un (by omega)]; exact hi.still hk
  · unfold aSw aSit; rw [pk_un (by omega), pk_un (by omega), pk_un (by omega), pk_un (by omega), pk_un (by omega), pk_un (by omega)]; exact hi.at hk
  · unfold aSw aSit; rw [pk_un (by omega), pk_un (by omega), pk_un (by omega), pk_un (by omega), pk_un (by omega), pk_un (by omega)]; exact hi.pay hk
  · unfold aSw aSit
    by_cases e1 : k = o
    · subst e1; rw [pk_un (by omega), pk_un (by omega), pk_us]; exact ⟨s, hs, es⟩
    · by_cases e2 : k = c
      · subst e2; rw [pk_un (by omega), pk_un (by omega), pk_un (by omega), pk_un (by omega), pk_un (by omega), pk_us]; exact ⟨t, ht, et⟩
      · rw [pk_un (by omega), pk_un (by omega), pk_un (by omega), pk_un (by omega), pk_un (by omega), pk_un (by omega)]; exact hi.seat hk
  · unfold aSw aSit
    by_cases e1 : k = o
    · subst e1; rw [pk_un (by omega), pk_us, pk_un (by omega), pk_un (by omega), pk_un (by omega)]; exact half_small (hi.grey hk)
    · by_cases e2 : k = c
      · subst e2; rw [pk_un (by omega), pk_un (by omega), pk_un (by omega), pk_un (by omega), pk_us]; exact half_small (hi.grey hk)
      · rw [pk_un (by omega), pk_un (by omega), pk_un (by omega), pk_un (by omega), pk_un (by omega), pk_un (by omega)]; exact hi.grey hk
  · unfold aSw aSit
    by_cases e1 : k = o
    · subst e1; rw [pk_us]; exact ⟨0, by omega, rfl⟩
    · by_cases e2 : k = c
      · subst e2; rw [pk_un (by omega), pk_un (by omega), pk_un (by omega), pk_us]; exact ⟨0, by omega, rfl⟩
      · rw [pk_un (by omega), pk_un (by omega), pk_un (by omega), pk_un (by omega), pk_un (by omega), pk_un (by omega)]; exact hi.sham hk
  · have key : ∀ k, k < nk → aSw a c o (27 + 7 * k) = a (27 + 7 * (if k = o then c else if k = c then o else k)) := by
      intro k hk
      unfold aSw aSit
      by_cases e1 : k = o
      · subst e1; rw [if_pos rfl, pk_un (by omega), pk_un (by omega), pk_us]
      · by_cases e2 : k = c
        · subst e2; rw [if_neg e1, if_pos rfl, pk_un (by omega), pk_un (by omega), pk_un (by omega), pk_un (by omega), pk_un (by omega), pk_us]
        · rw [if_neg e1, if_neg e2, pk_un (by omega), pk_un (by omega), pk_un (by omega), pk_un (by omega), pk_un (by omega), pk_un (by omega)]
    have lt : ∀ k, k < nk → (if k = o then c else if k = c then o else k) < nk := fun k hk => by
      split
      · omega
      · split <;> omega
    have e' : aSw a c o (27 + 7 * j) = aSw a c o (27 + 7 * k) := e
    rw [key j hj, key k hk] at e'
    have q := hi.apart (lt j hj) (lt k hk) e'
    by_cases j1 : j = o
    · rw [if_pos j1] at q
      by_cases k1 : k = o
      · omega
      · rw [if_neg k1] at q
        by_cases k2 : k = c
        · rw [if_pos k2] at q; omega
        · rw [if_neg k2] at q; omega
    · rw [if_neg j1] at q
      by_cases j2 : j = c
      · rw [if_pos j2] at q
        by_cases k1 : k = o
        · rw [if_pos k1] at q; omega
        · rw [if_neg k1] at q
          by_cases k2 : k = c
          · omega
          · rw [if_neg k2] at q; omega
      · rw [if_neg j2] at q
        by_cases k1 : k = o
        · rw [if_pos k1] at q; omega
        · rw [if_neg k1] at q
          by_cases k2 : k = c
          · rw [if_pos k2] at q; omega
          · rw [if_neg k2] at q; omega
  · unfold aSw aSit; rw [pk_un (by omega), pk_un (by omega), pk_un (by omega), pk_un (by omega), pk_un (by omega), pk_un (by omega)]; exact hi.sum hk
  · unfold aSw aSit; rw [pk_un (by omega), pk_un (by omega), pk_un (by omega), pk_un (by omega), pk_un (by omega), pk_un (by omega)]; exact hi.nerve hk
theorem x_exchange (h : Bq w a nm nc nr nk nl) (hi : Bi a nc nr nk nl) {c o : Nat} (hc : c < nk) (ho : o < nk) (hne : c ≠ o) : ∃ w', F_X0_exchange (nI c) (nI o) w = some (aSw a c o (27 + 7 * c + 2) + aSw a c o (27 + 7 * o + 2), w') ∧ Bq w' (aSw a c o) nm nc nr nk nl := by
  have hn := hi.cnt
  have h1 : Bq (gI (gI w 5 c (w.1 5 o)) 5 o (w.1 5 c)) (upd (upd a (27 + 7 * c) (a (27 + 7 * o))) (27 + 7 * o) (a (27 + 7 * c))) nm nc nr nk nl := by
    rw [h.seat hc, h.seat ho]
    exact (h.set_seat hn hc _).set_seat hn ho _
  have h2 := (h1.set_grey hn hc ((gI (gI w 5 c (w.1 5 o)) 5 o (w.1 5 c)).1 7 c / (2 : Int32))).set_sham hn hc 0
  have h3 := (h2.set_grey hn ho ((gI (gI (gI (gI w 5 c (w.1 5 o)) 5 o (w.1 5 c)) 7 c ((gI (gI w 5 c (w.1 5 o)) 5 o (w.1 5 c)).1 7 c / (2 : Int32))) 8 c 0).1 7 o / (2 : Int32))).set_sham hn ho 0
  have h4 := h3.congr hn (w' := _) (fun _ _ _ => rfl) (fun _ => rfl) (a' := aSw a c o) (fun k _ => by
    rw [h2.grey ho, h1.grey hc]
    unfold aSw aSit
    simp only [upd]
    by_cases e1 : k = 27 + 7 * o + 3
    · simp only [e1, if_true]
    · by_cases e2 : k = 27 + 7 * o + 2
      · subst e2
        simp (disch := omega) only [if_neg, if_true]
      · by_cases e3 : k = 27 + 7 * c + 3
        · subst e3
          simp (disch := omega) only [if_neg, if_true]
        · by_cases e4 : k = 27 + 7 * c + 2
          · subst e4
            simp (disch := omega) only [if_neg, if_true]
          · by_cases e5 : k = 27 + 7 * o
            · subst e5
              simp (disch := omega) only [if_neg, if_true]
            · simp (disch := omega) only [if_neg, e1, e2, e3, e4, e5, if_false])
  refine ⟨_, ?_, h4⟩
  unfold F_X0_exchange
  rw [x_hasClerk h hi, if_pos (gin_nI hc (by omega)), Option.bind_some, if_neg (by decide), x_hasClerk h hi, if_pos (gin_nI ho (by omega)), Option.bind_some, if_neg (by decide), if_neg (fun e => hne ((nI_eq (by omega) (by omega)).mp e)), if_pos (gin_nI (by omega) (by omega)), if_pos (gin_nI (by omega) (by omega)), nI_clamp (by omega), nI_clamp (by omega), x_half h1.n2 (by omega) hc, Option.bind_some, x_half h2.n2 (by omega) ho, Option.bind_some]
  rw [h4.grey hc, h4.grey ho]
theorem m_swaps (hi : Bi a nc nr nk nl) {c o : Nat} (hc : c < nk) (ho : o < nk) (hne : c ≠ o) : F_X11_swaps (nI c) (nI o) (pA m a) = some ((1 : Int32), pA m (aSw a c o)) := by
  have hn := hi.cnt
  unfold F_X11_swaps
  rw [m_clerk0 (by omega), Option.bind_some, if_neg (fun e => hne ((nI_eq (by omega) (by omega)).mp e)), m_clerk0 (by omega), Option.bind_some, m_sits (by omega), Option.bind_some, m_sits (by omega), Option.bind_some]
  rfl
/-! fans, dust, looks -/
def aFan (a : Nat → Int32) (c : Nat) (x : Int32) : Nat → Int32 := upd a (27 + 7 * c + 3) (imin (99 : Int32) (a (27 + 7 * c + 3) + x))
theorem Bi.fan (hi : Bi a nc nr nk nl) {c x : Nat} (hc : c < nk) (hx : x < 1000000) : Bi (aFan a c (nI x)) nc nr nk nl := by
  obtain ⟨s, hs, es⟩ := hi.sham hc
  refine hi.set_sham hc ⟨min 99 (s + x), by omega, ?_⟩
  rw [es, nI_add]
  exact imin_nI (a := 99) (by omega) (by omega)
theorem x_addSham (h : Bq w a nm nc nr nk nl) (hi : Bi a nc nr nk nl) {c : Nat} (hc : c < nk) (x : Int32) (hs : a (27 + 7 * c + 3) ≠ (99 : Int32)) : ∃ w', F_X0_addSham (nI c) x w = some (aFan a c x (27 + 7 * c + 3), w') ∧ Bq w' (aFan a c x) nm nc nr nk nl := by
  have hn := hi.cnt
  obtain ⟨s, hs2, es⟩ := hi.sham hc
  have hlt : a (27 + 7 * c + 3) < (99 : Int32) := by
    rw [es] at hs ⊢
    exact nI_lt (b := 99) (by have : s ≠ 99 := fun e => hs (by rw [e]; rfl); omega) (by omega)
  refine ⟨_, ?_, h.set_sham hn hc _⟩
  unfold F_X0_addSham
  rw [x_hasClerk h hi, if_pos (gin_nI hc (by omega)), Option.bind_some, if_neg (by decide), if_pos (gin_nI (by omega) (by omega)), nI_clamp (by omega), gI_same, h.sham hc, if_pos hlt]
  unfold aFan
  rw [pk_us]
theorem x_addSham_no (h : Bq w a nm nc nr nk nl) (hi : Bi a nc nr nk nl) {c : Nat} (hc : c < nk) (x : Int32) (hs : a (27 + 7 * c + 3) = (99 : Int32)) : F_X0_addSham (nI c) x w = some ((-1 : Int32), w) := by
  have hn := hi.cnt
  unfold F_X0_addSham
  rw [x_hasClerk h hi, if_pos (gin_nI hc (by omega)), Option.bind_some, if_neg (by decide), if_pos (gin_nI (by omega) (by omega)), nI_clamp (by omega), h.sham hc, hs, if_neg (by decide)]
theorem m_fans {c : Nat} (hc : c < 6) (x : Int32) : F_X11_fans (nI c) x (pA m a) = some (if a (27 + 7 * c + 3) = (99 : Int32) then ((0 : Int32), pA m a) else ((1 : Int32), pA m (aFan a c x))) := by
  unfold F_X11_fans
  rw [m_clerkRow, Option.bind_some, nq_addL, if_pos (gin_nI (by show 27 + 7 * c + 3 < 2356; omega) (by omega)), nI_clamp (n := 27 + 7 * c + 3) (by omega)]
  simp only [gI_pA, pA_pA, pA_1]
  show (if a (27 + 7 * c + 3) = (99 : Int32) then _ else _) = _
  split <;> rfl
def aCln (a : Nat → Int32) (c : Nat) : Nat → Int32 := upd a (27 + 7 * c + 3) 0
def aDst (a : Nat → Int32) (c : Nat) : Nat → Int32 := upd (upd a (27 + 7 * c + 3) 0) (27 + 7 * c + 2) 0
theorem Bi.cln (hi : Bi a nc nr nk nl) {c : Nat} (hc : c < nk) : Bi (aCln a c) nc nr nk nl := hi.set_sham hc ⟨0, by omega, rfl⟩
theorem Bi.dst (hi : Bi a nc nr nk nl) {c : Nat} (hc : c < nk) : Bi (aDst a c) nc nr nk nl := (hi.cln hc).set_grey hc ⟨0, by omega, rfl⟩
theorem x_wipe (h : Bq w a nm nc nr nk nl) (hi : Bi a nc nr nk nl) {c : Nat} (hc : c < nk) : ∃ w', F_X0_wipe (nI c) w = some (if a (27 + 7 * c + 3) + a (27 + 7 * c + 2) = 0 then ((-1 : Int32), w) else (a (27 + 7 * c + 3) + a (27 + 7 * c + 2), w')) ∧ Bq w' (aDst a c) nm nc nr nk nl := by
  have hn := hi.cnt
  refine ⟨gI (gI w 7 c 0) 8 c 0, ?_, ?_⟩
  · unfold F_X0_wipe
    rw [x_hasClerk h hi, if_pos (gin_nI hc (by omega)), Option.bind_some, if_neg (by decide), if_pos (gin_nI (by omega) (by omega)), nI_clamp (by omega), h.sham hc, h.grey hc, Int32.add_comm (a (27 + 7 * c + 2))]
    split <;> rfl
  · refine ((h.set_grey hn hc 0).set_sham hn hc 0).congr hn (fun _ _ _ => rfl) (fun _ => rfl) (fun k _ => ?_)
    unfold aDst
    by_cases e1 : k = 27 + 7 * c + 2
    · subst e1; rw [pk_us, pk_un (by omega), pk_us]
    · by_cases e2 : k = 27 + 7 * c + 3
      · subst e2; rw [pk_un (by omega), pk_us, pk_us]
      · rw [pk_un e1, pk_un e2, pk_un e2, pk_un e1]
theorem x_expose (h : Bq w a nm nc nr nk nl) (hi : Bi a nc nr nk nl) {c : Nat} (hc : c < nk) : ∃ w', F_X0_exposeSham (nI c) w = some (if a (27 + 7 * c + 3) = 0 then ((-1 : Int32), w) else (a (27 + 7 * c + 3), w')) ∧ Bq w' (aCln a c) nm nc nr nk nl := by
  have hn := hi.cnt
  refine ⟨gI w 8 c 0, ?_, h.set_sham hn hc 0⟩
  unfold F_X0_exposeSham
  rw [x_hasClerk h hi, if_pos (gin_nI hc (by omega)), Option.bind_some, if_neg (by decide), if_pos (gin_nI (by omega) (by omega)), nI_clamp (by omega), h.sham hc]
  split <;> rfl
theorem m_cleans1 {c : Nat} (hc : c < 6) : F_X11_cleans (nI c) (1 : Int32) (pA m a) = some (a (27 + 7 * c + 3) + a (27 + 7 * c + 2), pA m (aDst a c)) := by
  unfold F_X11_cleans f_X11_cleans_29
  rw [m_clerkRow, Option.bind_some, nq_addL, nq_addL, if_pos (gin_nI (by show 27 + 7 * c + 3 < 2356; omega) (by omega)), if_neg (by decide), if_pos (gin_nI (by show 27 + 7 * c + 2 < 2356; omega) (by omega)), if_pos (gin_nI (by show 27 + 7 * c + 3 < 2356; omega) (by omega)), if_neg (by decide), if_pos (gin_nI (by show 27 + 7 * c + 2 < 2356; omega) (by omega)), nI_clamp (n := 27 + 7 * c + 3) (by omega), nI_clamp (n := 27 + 7 * c + 2) (by omega)]
  simp only [gI_pA, pA_pA, pA_1]
  rfl
theorem m_cleans0 {c : Nat} (hc : c < 6) : F_X11_cleans (nI c) (0 : Int32) (pA m a) = some (a (27 + 7 * c + 3), pA m (aCln a c)) := by
  unfold F_X11_cleans f_X11_cleans_29
  rw [m_clerkRow, Option.bind_some, nq_addL, if_pos (gin_nI (by show 27 + 7 * c + 3 < 2356; omega) (by omega)), if_pos rfl, if_pos (gin_nI (by show 27 + 7 * c + 3 < 2356; omega) (by omega)), if_pos rfl, nI_clamp (n := 27 + 7 * c + 3) (by omega), Int32.add_zero]
  simp only [gI_pA, pA_pA, pA_1]
  rfl
end
