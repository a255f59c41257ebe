/-! Clients are paid and leave; one more client, one more clerk; a bank copied. -/
def aLv (a : Nat → Int32) (l N : Nat) : Nat → Int32 := fun k => if k = 3 then nI N else if 69 + 2 * l ≤ k ∧ k < 69 + 2 * N then a (k + 2) else a k
def aPl (a : Nat → Int32) (l N x : Nat) : Nat → Int32 := fun k => if k = 3 then nI N else if 69 + 2 * l ≤ k ∧ k < x then a (k + 2) else a k
theorem aLv_3 (a : Nat → Int32) (l N : Nat) : aLv a l N 3 = nI N := if_pos rfl
theorem aLv_lo {a : Nat → Int32} {l N k : Nat} (h3 : k ≠ 3) (h : k < 69 + 2 * l ∨ 69 + 2 * N ≤ k) : aLv a l N k = a k := by
  unfold aLv
  rw [if_neg h3, if_neg (by omega)]
theorem aLv_hi {a : Nat → Int32} {l N k : Nat} (h : 69 + 2 * l ≤ k) (h2 : k < 69 + 2 * N) : aLv a l N k = a (k + 2) := by
  unfold aLv
  rw [if_neg (by omega), if_pos ⟨h, h2⟩]
/-- a client whose turn it is: (how many are gone, what is paid, the row) -/
def pSt (S : Nat) (k : Nat) (t : Nat × Int32 × (Nat → Int32)) : Nat × Int32 × (Nat → Int32) :=
  if S.testBit k = true ∧ ¬ t.2.2 5 < t.2.2 (69 + 2 * (k - t.1)) then (t.1 + 1, t.2.1 + t.2.2 (69 + 2 * (k - t.1)), aLv (upd t.2.2 5 (t.2.2 5 - t.2.2 (69 + 2 * (k - t.1)))) (k - t.1) ((t.2.2 3).toNatClampNeg - 1)) else t
section
variable {w m : GW} {a : Nat → Int32} {nm : Nat → Int64} {nc nr nk nl : Nat}
theorem m_leaves_l {l N : Nat} (hN : N ≤ 8) : ∀ k n x, x + k = 69 + 2 * N → k < n → 69 + 2 * l ≤ x → f_X11_leaves_15 n (nI x) (pA m (aPl a l N x)) = some (pA m (aLv a l N)) := by
  intro k
  induction k with
  | zero =>
    intro n x e hn hx
    obtain ⟨n, rfl⟩ := fu_pos hn
    show b_X11_leaves_15 _ (nI x) (pA m (aPl a l N x)) = _
    unfold b_X11_leaves_15
    rw [show (pA m (aPl a l N x)).1 1 3 = nI N from rfl, m_clientRow, Option.bind_some, if_pos (nI_le (by omega) (by omega)), show x = 69 + 2 * N by omega]
    rfl
  | succ k ih =>
    intro n x e hn hx
    obtain ⟨n, rfl⟩ := fu_pos hn
    show b_X11_leaves_15 _ (nI x) (pA m (aPl a l N x)) = _
    unfold b_X11_leaves_15
    rw [show (pA m (aPl a l N x)).1 1 3 = nI N from rfl, m_clientRow, Option.bind_some, if_neg (nI_ge (by omega) (by omega)), nq_addL, if_pos (gin_nI (by show x + 2 < 2356; omega) (by omega)), if_pos (gin_nI (by omega) (by omega)), nI_clamp (n := x + 2) (by omega), nI_clamp (n := x) (by omega), gI_pA, pA_pA, pA_1, nI_1, ← ih n (x + 1) (by omega) (by omega) (by omega)]
    congr 2
    funext j
    show upd (aPl a l N x) x (aPl a l N x (x + 2)) j = aPl a l N (x + 1) j
    by_cases ej : j = x
    · subst ej
      rw [pk_us]
      unfold aPl
      rw [if_neg (by omega), if_neg (by omega), if_neg (by omega), if_pos (by omega)]
    · rw [pk_un ej]
      unfold aPl
      by_cases e3 : j = 3
      · rw [if_pos e3, if_pos e3]
      · rw [if_neg e3, if_neg e3]
        by_cases e4 : 69 + 2 * l ≤ j ∧ j < x
        · rw [if_pos e4, if_pos (by omega)]
        · rw [if_neg e4, if_neg (by omega)]
theorem m_leaves {l N : Nat} (hN : N ≤ 8) (hl : l ≤ N) (h3 : a 3 = nI (N + 1)) : F_X11_leaves (nI l) (pA m a) = some (pA m (aLv a l N)) := by
  unfold F_X11_leaves
  rw [m_clientRow, Option.bind_some, show (pA m a).1 1 3 = nI (N + 1) from h3, nI_pred, gI_pA, pA_pA, ← m_leaves_l (m := m) (a := a) (l := l) hN (2 * N - 2 * l) FU (69 + 2 * l) (by omega) (by have := FU_big; omega) (by omega)]
  congr 2
  funext j
  show upd a 3 (nI N) j = aPl a l N (69 + 2 * l) j
  unfold aPl
  by_cases e3 : j = 3
  · rw [e3, pk_us, if_pos rfl]
  · rw [pk_un e3, if_neg e3, if_neg (by omega)]
/-- what holds of the row when gone of the clients have left, ahead of client i -/
theorem Bi.lv (hi : Bi a nc nr nk (nl + 1)) {l : Nat} (hl : l ≤ nl) {v : Int32} (hv : ∃ o, o ≤ 9999 ∧ v = nI o) : Bi (aLv (upd a 5 v) l nl) nc nr nk nl := by
  have hn := hi.cnt
  have h5 : Bi (upd a 5 v) nc nr nk (nl + 1) := hi.set_cash hv
  refine ⟨⟨?_, ?_, ?_, ?_⟩, ⟨hn.1, hn.2.1, hn.2.2.1, by omega⟩, ?_, ?_, fun k hk => ?_, fun k hk => ⟨?_, ?_⟩, fun k hk => ⟨?_, ?_, ?_⟩, fun j k hj hk e => ?_, fun k hk => ?_⟩
  · rw [aLv_lo (by omega) (by omega)]; exact h5.n0
  · rw [aLv_lo (by omega) (by omega)]; exact h5.n1
  · rw [aLv_lo (by omega) (by omega)]; exact h5.n2
  · exact aLv_3 _ _ _
  · rw [aLv_lo (by omega) (by omega)]; exact h5.odds
  · rw [aLv_lo (by omega) (by omega)]; exact h5.cash
  · rw [aLv_lo (by omega) (by omega)]; exact h5.still hk
  · rw [aLv_lo (by omega) (by omega)]; exact h5.at hk
  · rw [aLv_lo (by omega) (by omega)]; exact h5.pay hk
  · rw [aLv_lo (by omega) (by omega)]; exact h5.seat hk
  · rw [aLv_lo (by omega) (by omega)]; exact h5.grey hk
  · rw [aLv_lo (by omega) (by omega)]; exact h5.sham hk
  · rw [aLv_lo (by omega) (by omega), aLv_lo (by omega) (by omega)] at e; exact h5.apart hj hk e
  · by_cases hkl : k < l
    · rw [aLv_lo (by omega) (by omega), aLv_lo (by omega) (by omega)]
      exact ⟨h5.sum (by omega), h5.nerve (by omega)⟩
    · rw [aLv_hi (by omega) (by omega), aLv_hi (by omega) (by omega)]
      have q1 := h5.sum (k := k + 1) (by omega)
      have q2 := h5.nerve (k := k + 1) (by omega)
      rw [show 69 + 2 * (k + 1) = 69 + 2 * k + 2 by omega] at q1 q2
      exact ⟨q1, q2⟩
theorem Bq.lv {l : Nat} (h : Bq w a nm nc nr nk l) (hn : nc ≤ 7 ∧ nr ≤ 5 ∧ nk ≤ 6) (N : Nat) : Bq w (aLv a l N) nm nc nr nk l := by
  refine ⟨⟨?_, ?_, ?_⟩, ⟨?_, ?_, ?_, ?_⟩, fun k hk => ?_, fun k hk => ⟨?_, ?_⟩, fun k hk => ?_, fun k hk => ⟨?_, ?_, ?_, ?_, ?_, ?_⟩, fun k hk => ⟨?_, ?_⟩⟩
  · rw [aLv_lo (by omega) (by omega)]; exact h.odds
  · rw [aLv_lo (by omega) (by omega)]; exact h.cash
  · rw [aLv_lo (by omega) (by omega)]; exact h.year
  · exact h.n0
  · exact h.n1
  · exact h.n2
  · exact h.n3
  · rw [aLv_lo (by omega) (by omega)]; exact h.still hk
  · rw [aLv_lo (by omega) (by omega)]; exact h.at hk
  · rw [aLv_lo (by omega) (by omega)]; exact h.pay hk
  · exact h.name hk
  · rw [aLv_lo (by omega) (by omega)]; exact h.seat hk
  · rw [aLv_lo (by omega) (by omega)]; exact h.served hk
  · rw [aLv_lo (by omega) (by omega)]; exact h.grey hk
  · rw [aLv_lo (by omega) (by omega)]; exact h.sham hk
  · rw [aLv_lo (by omega) (by omega)]; exact h.paid hk
  · rw [aLv_lo (by omega) (by omega)]; exact h.unpaid hk
  · rw [aLv_lo (by omega) (by omega)]; exact h.sum hk
  · rw [aLv_lo (by omega) (by omega)]; exact h.nerve hk
/-- one client more in the class's rows -/
theorem Bq.snoc {l : Nat} (h : Bq (gI w 0 6 (nI l)) a nm nc nr nk l) {x y : Int32} (hx : x = a (69 + 2 * l)) (hy : y = a (69 + 2 * l + 1)) : Bq (gI (gI (gI w 11 l x) 12 l y) 0 6 (nI (l + 1))) a nm nc nr nk (l + 1) := by
  refine ⟨⟨?_, ?_, ?_⟩, ⟨?_, ?_, ?_, ?_⟩, fun k hk => ?_, fun k hk => ⟨?_, ?_⟩, fun k hk => ?_, fun k hk => ⟨?_, ?_, ?_, ?_, ?_, ?_⟩, fun k hk => ⟨?_, ?_⟩⟩
  · have := h.odds; rw [gI_ne _ _ _ _ (by omega)] at this; rw [gI_ne _ _ _ _ (by omega), gI_ne _ _ _ _ (by omega), gI_ne _ _ _ _ (by omega)]; exact this
  · have := h.cash; rw [gI_ne _ _ _ _ (by omega)] at this; rw [gI_ne _ _ _ _ (by omega), gI_ne _ _ _ _ (by omega), gI_ne _ _ _ _ (by omega)]; exact this
  · have := h.year; rw [gI_ne _ _ _ _ (by omega)] at this; rw [gI_ne _ _ _ _ (by omega), gI_ne _ _ _ _ (by omega), gI_ne _ _ _ _ (by omega)]; exact this
  · have := h.n0; rw [gI_ne _ _ _ _ (by omega)] at this; rw [gI_ne _ _ _ _ (by omega), gI_ne _ _ _ _ (by omega), gI_ne _ _ _ _ (by omega)]; exact this
  · have := h.n1; rw [gI_ne _ _ _ _ (by omega)] at this; rw [gI_ne _ _ _ _ (by omega), gI_ne _ _ _ _ (by omega), gI_ne _ _ _ _ (by omega)]; exact this
  · have := h.n2; rw [gI_ne _ _ _ _ (by omega)] at this; rw [gI_ne _ _ _ _ (by omega), gI_ne _ _ _ _ (by omega), gI_ne _ _ _ _ (by omega)]; exact this
  · rw [gI_same]
  · have := h.still hk; rw [gI_ne _ _ _ _ (by omega)] at this; rw [gI_ne _ _ _ _ (by omega), gI_ne _ _ _ _ (by omega), gI_ne _ _ _ _ (by omega)]; exact this
  · have := h.at hk; rw [gI_ne _ _ _ _ (by omega)] at this; rw [gI_ne _ _ _ _ (by omega), gI_ne _ _ _ _ (by omega), gI_ne _ _ _ _ (by omega)]; exact this
  · have := h.pay hk; rw [gI_ne _ _ _ _ (by omega)] at this; rw [gI_ne _ _ _ _ (by omega), gI_ne _ _ _ _ (by omega), gI_ne _ _ _ _ (by omega)]; exact this
  · exact h.name hk
  · have := h.seat hk; rw [gI_ne _ _ _ _ (by omega)] at this; rw [gI_ne _ _ _ _ (by omega), gI_ne _ _ _ _ (by omega), gI_ne _ _ _ _ (by omega)]; exact this
  · have := h.served hk; rw [gI_ne _ _ _ _ (by omega)] at this; rw [gI_ne _ _ _ _ (by omega), gI_ne _ _ _ _ (by omega), gI_ne _ _ _ _ (by omega)]; exact this
  · have := h.grey hk; rw [gI_ne _ _ _ _ (by omega)] at this; rw [gI_ne _ _ _ _ (by omega), gI_ne _ _ _ _ (by omega), gI_ne _ _ _ _ (by omega)]; exact this
  · have := h.sham hk; rw [gI_ne _ _ _ _ (by omega)] at this; rw [gI_ne _ _ _ _ (by omega), gI_ne _ _ _ _ (by omega), gI_ne _ _ _ _ (by omega)]; exact this
  · have := h.paid hk; rw [gI_ne _ _ _ _ (by omega)] at this; rw [gI_ne _ _ _ _ (by omega), gI_ne _ _ _ _ (by omega), gI_ne _ _ _ _ (by omega)]; exact this
  · have := h.unpaid hk; rw [gI_ne _ _ _ _ (by omega)] at this; rw [gI_ne _ _ _ _ (by omega), gI_ne _ _ _ _ (by omega), gI_ne _ _ _ _ (by omega)]; exact this
  · by_cases e : k = l
    · subst e; rw [gI_ne _ _ _ _ (by omega), gI_ne _ _ _ _ (by omega), gI_same]; exact hx
    · have := h.sum (k := k) (by omega); rw [gI_ne _ _ _ _ (by omega)] at this; rw [gI_ne _ _ _ _ (by omega), gI_ne _ _ _ _ (by omega), gI_ne _ _ _ _ (by omega)]; exact this
  · by_cases e : k = l
    · subst e; rw [gI_ne _ _ _ _ (by omega), gI_same]; exact hy
    · have := h.nerve (k := k) (by omega); rw [gI_ne _ _ _ _ (by omega)] at this; rw [gI_ne _ _ _ _ (by omega), gI_ne _ _ _ _ (by omega), gI_ne _ _ _ _ (by omega)]; exact this
theorem gI_comm (w : GW) {i j k l : Nat} (h : ¬ (i = k ∧ j = l)) (x y : Int32) : gI (gI w i j x) k l y = gI (gI w k l y) i j x := by
  refine Prod.ext (funext fun p => funext fun q => ?_) rfl
  show (if p = k ∧ q = l then y else if p = i ∧ q = j then x else w.1 p q) = (if p = i ∧ q = j then x else if p = k ∧ q = l then y else w.1 p q)
  by_cases e1 : p = k ∧ q = l
  · rw [if_pos e1, if_neg (fun e2 => h ⟨e2.1.symm.trans e1.1, e2.2.symm.trans e1.2⟩), if_pos e1]
  · rw [if_neg e1, if_neg e1]
theorem x_pay_l {S : Nat} (hS : S < 256) (hnl : nl ≤ 8) : ∀ k n i l t (w : GW) (a : Nat → Int32), i + k = nl → k < n → l ≤ i → Bq (gI w 0 6 (nI l)) a nm nc nr nk l → w.1 0 6 = nI nl → (∀ j, i ≤ j → j < nl → w.1 11 j = a (69 + 2 * (j - (i - l))) ∧ w.1 12 j = a (69 + 2 * (j - (i - l)) + 1)) → Bi a nc nr nk (nl - (i - l)) → ∃ w', f_X0_payComing_19 n (nI S) t (nI l) (nI i) w = some ((fo (pSt S) i k (i - l, t, a)).2.1, w') ∧ Bq w' (fo (pSt S) i k (i - l, t, a)).2.2 nm nc nr nk (nl - (fo (pSt S) i k (i - l, t, a)).1) ∧ Bi (fo (pSt S) i k (i - l, t, a)).2.2 nc nr nk (nl - (fo (pSt S) i k (i - l, t, a)).1) := by
  intro k
  induction k with
  | zero =>
    intro n i l t w a e hn hl h h6 hs hi
    obtain ⟨n, rfl⟩ := fu_pos hn
    refine ⟨gI w 0 6 (nI l), ?_, ?_, hi⟩
    · show b_X0_payComing_19 _ (nI S) t (nI l) (nI i) w = _
      unfold b_X0_payComing_19
      rw [h6, if_pos (nI_le (by omega) (by omega))]
      rfl
    · show Bq _ a nm nc nr nk (nl - (i - l))
      rw [show nl - (i - l) = l by omega]
      exact h
  | succ k ih =>
    intro n i l t w a e hn hl h h6 hs hi
    have hnn := hi.cnt
    obtain ⟨n, rfl⟩ := fu_pos hn
    show ∃ w', b_X0_payComing_19 _ (nI S) t (nI l) (nI i) w = some ((fo (pSt S) (i + 1) k (pSt S i (i - l, t, a))).2.1, w') ∧ Bq w' (fo (pSt S) (i + 1) k (pSt S i (i - l, t, a))).2.2 nm nc nr nk (nl - (fo (pSt S) (i + 1) k (pSt S i (i - l, t, a))).1) ∧ Bi (fo (pSt S) (i + 1) k (pSt S i (i - l, t, a))).2.2 nc nr nk (nl - (fo (pSt S) (i + 1) k (pSt S i (i - l, t, a))).1)
    have hs1 := hs i (Nat.le_refl i) (by omega)
    rw [show i - (i - l) = l by omega] at hs1
    have hcash : w.1 0 1 = a 5 := by
      have := h.cash
      rw [gI_ne _ _ _ _ (by omega)] at this
      exact this
    -- not paid
    have np : pSt S i (i - l, t, a) = (i - l, t, a) → ∃ w', f_X0_payComing_80 (f_X0_payComing_19 n) (nI S) t (nI l) (nI i) w = some ((fo (pSt S) (i + 1) k (pSt S i (i - l, t, a))).2.1, w') ∧ Bq w' (fo (pSt S) (i + 1) k (pSt S i (i - l, t, a))).2.2 nm nc nr nk (nl - (fo (pSt S) (i + 1) k (pSt S i (i - l, t, a))).1) ∧ Bi (fo (pSt S) (i + 1) k (pSt S i (i - l, t, a))).2.2 nc nr nk (nl - (fo (pSt S) (i + 1) k (pSt S i (i - l, t, a))).1) := by
      intro ep
      rw [ep]
      unfold f_X0_payComing_80 f_X0_payComing_109
      rw [if_pos (gin_nI (by omega) (by omega)), if_pos (gin_nI (by omega) (by omega)), nI_clamp (by omega), nI_clamp (by omega), nI_1, nI_1]
      have q := ih n (i + 1) (l + 1) t (gI (gI w 11 l (w.1 11 i)) 12 l (w.1 12 i)) a (by omega) (by omega) (by omega) (h.snoc hs1.1 hs1.2) (by rw [gI_ne _ _ _ _ (by omega), gI_ne _ _ _ _ (by omega)]; exact h6) (fun j hj hj2 => by
        rw [gI_ne _ _ _ _ (by omega), gI_ne _ _ _ _ (by omega), gI_ne _ _ _ _ (by omega), gI_ne _ _ _ _ (by omega), show i + 1 - (l + 1) = i - l by omega]
        exact hs j (by omega) hj2) (by rw [show i + 1 - (l + 1) = i - l by omega]; exact hi)
      rw [show i + 1 - (l + 1) = i - l by omega] at q
      exact q
    unfold b_X0_payComing_19
    rw [h6, if_neg (nI_ge (by omega) (by omega)), if_pos (gin_nI (by omega) (by omega)), nI_clamp (by omega), hs1.1, hcash]
    by_cases hb : S.testBit i = true
    · rw [if_neg (fun q => by rw [(bitC (by omega) (by omega)).mp q] at hb; cases hb)]
      by_cases hc : a 5 < a (69 + 2 * l)
      · rw [if_pos hc]
        refine np ?_
        unfold pSt
        rw [if_neg (fun q => q.2 (by show a 5 < a (69 + 2 * (i - (i - l))); rw [show i - (i - l) = l by omega]; exact hc))]
      · rw [if_neg hc]
        have ep : pSt S i (i - l, t, a) = (i - l + 1, t + a (69 + 2 * l), aLv (upd a 5 (a 5 - a (69 + 2 * l))) l (nl - (i - l) - 1)) := by
          unfold pSt
          dsimp only
          rw [show i - (i - l) = l by omega, if_pos ⟨hb, hc⟩, hi.n3, nI_clamp (by omega)]
        rw [ep]
        unfold f_X0_payComing_109
        rw [nI_1]
        obtain ⟨c, hc9, ec⟩ := hi.cash
        obtain ⟨s, hs0, hs9, es⟩ := hi.sum (k := l) (by omega)
        have hv : ∃ o, o ≤ 9999 ∧ a 5 - a (69 + 2 * l) = nI o := by
          rw [ec, es] at hc ⊢
          have : s ≤ c := Nat.le_of_not_lt (fun q => hc (nI_lt q (by omega)))
          exact ⟨c - s, by omega, nI_sub this⟩
        have hq : Bq (gI (gI w 0 1 (a 5 - a (69 + 2 * l))) 0 6 (nI l)) (aLv (upd a 5 (a 5 - a (69 + 2 * l))) l (nl - (i - l) - 1)) nm nc nr nk l := by
          rw [gI_comm w (by omega)]
          exact (h.set_cash ⟨hnn.1, hnn.2.1, hnn.2.2.1, by omega⟩ _).lv ⟨hnn.1, hnn.2.1, hnn.2.2.1⟩ _
        have hi1 : Bi a nc nr nk (nl - (i - l) - 1 + 1) := by rw [show nl - (i - l) - 1 + 1 = nl - (i - l) by omega]; exact hi
        have q := ih n (i + 1) l (t + a (69 + 2 * l)) (gI w 0 1 (a 5 - a (69 + 2 * l))) _ (by omega) (by omega) (by omega) hq (by rw [gI_ne _ _ _ _ (by omega)]; exact h6) (fun j hj hj2 => by
          rw [gI_ne _ _ _ _ (by omega), gI_ne _ _ _ _ (by omega), aLv_hi (by omega) (by omega), aLv_hi (by omega) (by omega), pk_un (by omega), pk_un (by omega)]
          have := hs j (by omega) hj2
          rw [show 69 + 2 * (j - (i - l)) = 69 + 2 * (j - (i + 1 - l)) + 2 by omega] at this
          exact this) (by
            have := hi1.lv (l := l) (by omega) hv
            rw [show nl - (i + 1 - l) = nl - (i - l) - 1 by omega]
            exact this)
        rw [show i + 1 - l = i - l + 1 by omega] at q
        exact q
    · rw [if_pos ((bitC (by omega) (by omega)).mpr (by simpa using hb))]
      refine np ?_
      unfold pSt
      rw [if_neg (fun q => hb q.1)]
theorem m_pay_l {S : Nat} (hS : S < 2 ^ nl) (hnl : nl ≤ 8) : ∀ k n i g t (a : Nat → Int32), i + k = 8 → k < n → g ≤ i → g ≤ nl → Bi a nc nr nk (nl - g) → f_X11_pays_7 n (nI S) (nI g) t (nI i) (pA m a) = some ((fo (pSt S) i k (g, t, a)).2.1, pA m (fo (pSt S) i k (g, t, a)).2.2) := by
  have h8 := p256 hnl
  intro k
  induction k with
  | zero =>
    intro n i g t a e hn hg hg2 hi
    obtain ⟨n, rfl⟩ := fu_pos hn
    show b_X11_pays_7 _ (nI S) (nI g) t (nI i) (pA m a) = _
    unfold b_X11_pays_7
    rw [if_pos (nI_leL (by omega) (by omega))]
    rfl
  | succ k ih =>
    intro n i g t a e hn hg hg2 hi
    obtain ⟨n, rfl⟩ := fu_pos hn
    have hnn := hi.cnt
    show b_X11_pays_7 _ (nI S) (nI g) t (nI i) (pA m a) = some ((fo (pSt S) (i + 1) k (pSt S i (g, t, a))).2.1, pA m (fo (pSt S) (i + 1) k (pSt S i (g, t, a))).2.2)
    unfold b_X11_pays_7 f_X11_pays_93
    rw [if_neg (nI_geL (by omega) (by omega)), m_isIn (by omega) (by omega), Option.bind_some]
    by_cases hb : S.testBit i = true
    · have hil : i < nl := by
        apply Nat.lt_of_not_le
        intro q
        have h1 : S < 2 ^ i := Nat.lt_of_lt_of_le hS (Nat.pow_le_pow_right (by decide) q)
        rw [Nat.testBit_lt_two_pow h1] at hb
        cases hb
      rw [if_pos hb, if_neg one_ne, nI_sub hg, m_clientRow, Option.bind_some, Option.bind_some, Option.bind_some, if_pos (gin_nI (by omega) (by omega)), if_pos (gin_nI (by omega) (by omega)), if_pos (gin_nI (by omega) (by omega)), nI_clamp (by omega)]
      show (if a (69 + 2 * (i - g)) ≤ a 5 then _ else _) = _
      by_cases hc : a 5 < a (69 + 2 * (i - g))
      · rw [if_neg (Int32.not_le.mpr hc), nI_1]
        have ep : pSt S i (g, t, a) = (g, t, a) := by
          unfold pSt
          rw [if_neg (fun q => q.2 hc)]
        rw [ep]
        exact ih n (i + 1) g t a (by omega) (by omega) (by omega) hg2 hi
      · obtain ⟨c, hc9, ec⟩ := hi.cash
        obtain ⟨s, hs0, hs9, es⟩ := hi.sum (k := i - g) (by omega)
        have hv : ∃ o, o ≤ 9999 ∧ a 5 - a (69 + 2 * (i - g)) = nI o := by
          rw [ec, es] at hc ⊢
          have : s ≤ c := Nat.le_of_not_lt (fun q => hc (nI_lt q (by omega)))
          exact ⟨c - s, by omega, nI_sub this⟩
        have hi1 : Bi a nc nr nk (nl - g - 1 + 1) := by rw [show nl - g - 1 + 1 = nl - g by omega]; exact hi
        have ep : pSt S i (g, t, a) = (g + 1, t + a (69 + 2 * (i - g)), aLv (upd a 5 (a 5 - a (69 + 2 * (i - g)))) (i - g) (nl - g - 1)) := by
          unfold pSt
          dsimp only
          rw [if_pos ⟨hb, hc⟩, hi.n3, nI_clamp (by omega)]
        rw [ep, if_pos (Int32.not_lt.mp hc), gI_pA, pA_pA, pA_1]
        rw [m_leaves (N := nl - g - 1) (by omega) (by omega) (by rw [pk_un (by omega)]; exact hi1.n3), Option.bind_some, nI_1, nI_1]
        rw [show ∀ v, (pA m (upd a 5 v)).1 1 (69 + 2 * (i - g)) = a (69 + 2 * (i - g)) from fun v => pk_un (by omega)]
        exact ih n (i + 1) (g + 1) _ _ (by omega) (by omega) (by omega) (by omega) (by
          rw [show nl - (g + 1) = nl - g - 1 by omega]
          exact hi1.lv (by omega) hv)
    · rw [if_neg hb, if_pos zer_eq, nI_1]
      have ep : pSt S i (g, t, a) = (g, t, a) := by
        unfold pSt
        rw [if_neg (fun q => hb q.1)]
      rw [ep]
      exact ih n (i + 1) g t a (by omega) (by omega) (by omega) hg2 hi
theorem pSt_out {S k : Nat} (h : S.testBit k = false) (t : Nat × Int32 × (Nat → Int32)) : pSt S k t = t := by
  unfold pSt
  rw [if_neg (fun q => by rw [h] at q; cases q.1)]
theorem fo_id {α : Type} {g : Nat → α → α} : ∀ n i s, (∀ k t, i ≤ k → k < i + n → g k t = t) → fo g i n s = s := by
  intro n
  induction n with
  | zero => intro i s _; rfl
  | succ n ih =>
    intro i s h
    show fo g (i + 1) n (g i s) = s
    rw [h i s (by omega) (by omega)]
    exact ih (i + 1) s (fun k t h1 h2 => h k t (by omega) (by omega))
theorem fo_split {α : Type} (g : Nat → α → α) : ∀ n i k s, fo g i (n + k) s = fo g (i + n) k (fo g i n s) := by
  intro n
  induction n with
  | zero => intro i k s; rw [Nat.zero_add]; rfl
  | succ n ih =>
    intro i k s
    rw [Nat.succ_add]
    show fo g (i + 1) (n + k) (g i s) = _
    rw [ih, show i + 1 + n = i + (n + 1) by omega]
    rfl
/-- the row when those of S are paid; what is paid; how many are gone -/
def sPay (S nl : Nat) (a : Nat → Int32) : Nat × Int32 × (Nat → Int32) := fo (pSt S) 0 nl (0, 0, a)
theorem m_pays (hi : Bi a nc nr nk nl) {S : Nat} (hS : S < 2 ^ nl) : F_X11_pays (nI S) (pA m a) = some ((sPay S nl a).2.1, pA m (sPay S nl a).2.2) := by
  have hn := hi.cnt
  have h := m_pay_l (m := m) hS (by omega) 8 FU 0 0 0 a (by omega) (by have := FU_big; omega) (by omega) (by omega) hi
  have e : fo (pSt S) 0 8 (0, (0 : Int32), a) = sPay S nl a := by
    have h2 := fo_split (pSt S) nl 0 (8 - nl) (0, (0 : Int32), a)
    rw [show nl + (8 - nl) = 8 by omega] at h2
    rw [h2]
    refine fo_id (8 - nl) (0 + nl) _ (fun k t h3 h4 => pSt_out ?_ t)
    exact Nat.testBit_lt_two_pow (Nat.lt_of_lt_of_le hS (Nat.pow_le_pow_right (by decide) (by omega)))
  rw [e] at h
  exact h
theorem gI_id (w : GW) {i k : Nat} {v : Int32} (h : w.1 i k = v) : gI w i k v = w := by
  refine Prod.ext (funext fun p => funext fun q => ?_) rfl
  show (if p = i ∧ q = k then v else w.1 p q) = w.1 p q
  by_cases e : p = i ∧ q = k
  · rw [if_pos e, e.1, e.2, h]
  · rw [if_neg e]
theorem x_payComing (h : Bq w a nm nc nr nk nl) (hi : Bi a nc nr nk nl) (hS : sCo a nl 0 ≠ 0) : ∃ w', F_X0_payComing w = some ((sPay (sCo a nl 0) nl a).2.1, w') ∧ Bq w' (sPay (sCo a nl 0) nl a).2.2 nm nc nr nk (nl - (sPay (sCo a nl 0) nl a).1) ∧ Bi (sPay (sCo a nl 0) nl a).2.2 nc nr nk (nl - (sPay (sCo a nl 0) nl a).1) := by
  have hn := hi.cnt
  have h8 := p256 hn.2.2.2
  have hs := sCo_small a nl 0
  have h0 : Bq (gI w 0 6 (nI 0)) a nm nc nr nk 0 := by
    refine ⟨?_, ⟨?_, ?_, ?_, ?_⟩, h.2.2.1, h.2.2.2.1, h.2.2.2.2.1, h.2.2.2.2.2.1, fun k hk => absurd hk (by omega)⟩
    · exact ⟨h.odds, h.cash, h.year⟩
    · exact h.n0
    · exact h.n1
    · exact h.n2
    · exact gI_same _ _ _ _
  have q := x_pay_l (S := sCo a nl 0) (by omega) hn.2.2.2 nl FU 0 0 0 w a (by omega) (by have := FU_big; omega) (by omega) h0 h.n3 (fun j _ hj => by
    rw [show j - (0 - 0) = j by omega]
    exact ⟨h.sum hj, h.nerve hj⟩) hi
  unfold F_X0_payComing
  rw [show (0 : Int32) = nI 0 from rfl, x_coming h hi (Nat.two_pow_pos nl), Option.bind_some, if_neg (fun e => hS ((nI_eq (b := 0) (by omega) (by omega)).mp e))]
  exact q
theorem x_payComing_no (h : Bq w a nm nc nr nk nl) (hi : Bi a nc nr nk nl) (hS : sCo a nl 0 = 0) : F_X0_payComing w = some ((-1 : Int32), w) := by
  unfold F_X0_payComing
  rw [show (0 : Int32) = nI 0 from rfl, x_coming h hi (Nat.two_pow_pos nl), Option.bind_some, hS, if_pos rfl]
theorem sPay_0 (nl : Nat) (a : Nat → Int32) : sPay 0 nl a = (0, 0, a) := fo_id nl 0 _ (fun k t _ _ => pSt_out (by simp) t)
theorem sPay_small (hi : Bi a nc nr nk nl) (S : Nat) : ∃ r, r ≤ 99 * nl ∧ (sPay S nl a).2.1 = nI r := by
  have hnn := hi.cnt
  have h := fo_ind (pSt S) (fun i t => t.1 ≤ i ∧ Bi t.2.2 nc nr nk (nl - t.1) ∧ ∃ r, r ≤ 99 * i ∧ t.2.1 = nI r) nl 0 (0, 0, a) ⟨Nat.le_refl 0, hi, 0, by omega, rfl⟩ (fun k t _ h2 ht => by
    obtain ⟨h3, hb, r, hr, er⟩ := ht
    unfold pSt
    by_cases hp : S.testBit k = true ∧ ¬ t.2.2 5 < t.2.2 (69 + 2 * (k - t.1))
    · rw [if_pos hp]
      obtain ⟨c, hc9, ec⟩ := hb.cash
      obtain ⟨s, hs0, hs9, es⟩ := hb.sum (k := k - t.1) (by omega)
      have hv : ∃ o, o ≤ 9999 ∧ t.2.2 5 - t.2.2 (69 + 2 * (k - t.1)) = nI o := by
        have hc := hp.2
        rw [ec, es] at hc ⊢
        have : s ≤ c := Nat.le_of_not_lt (fun q => hc (nI_lt q (by omega)))
        exact ⟨c - s, by omega, nI_sub this⟩
      have hb1 : Bi t.2.2 nc nr nk (nl - t.1 - 1 + 1) := by rw [show nl - t.1 - 1 + 1 = nl - t.1 by omega]; exact hb
      refine ⟨by show t.1 + 1 ≤ k + 1; omega, ?_, r + s, by omega, ?_⟩
      · show Bi (aLv _ _ ((t.2.2 3).toNatClampNeg - 1)) nc nr nk (nl - (t.1 + 1))
        rw [hb.n3, nI_clamp (by omega), show nl - (t.1 + 1) = nl - t.1 - 1 by omega]
        exact hb1.lv (by omega) hv
      · show t.2.1 + _ = _
        rw [er, es, nI_add]
    · rw [if_neg hp]
      exact ⟨by omega, hb, r, by omega, er⟩)
  obtain ⟨_, _, r, hr, er⟩ := h
  exact ⟨r, by omega, er⟩
theorem sPay_keep (hi : Bi a nc nr nk nl) (S : Nat) {j : Nat} (hj : j ≠ 3 ∧ j ≠ 5 ∧ (j < 69 ∨ 86 ≤ j)) : (sPay S nl a).2.2 j = a j := by
  have hnn := hi.cnt
  have h := fo_ind (pSt S) (fun i t => t.2.2 j = a j ∧ (t.2.2 3).toNatClampNeg ≤ 8) nl 0 (0, 0, a) ⟨rfl, by show (a 3).toNatClampNeg ≤ 8; rw [hi.n3, nI_clamp (by omega)]; omega⟩ (fun k t _ h2 ht => by
    unfold pSt
    split
    · refine ⟨?_, ?_⟩
      · show aLv _ _ _ j = _
        have := ht.2
        rw [aLv_lo hj.1 (by omega), pk_un hj.2.1]
        exact ht.1
      · have := ht.2
        dsimp only
        rw [aLv_3, nI_clamp (by omega)]
        omega
    · exact ht)
  exact h.1
end
