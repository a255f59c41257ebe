/-! Fractions: shares, odds of shams. -/
theorem half_of {B r : Nat} (hr : r < B) (h0 : 0 < r) : 2 * (B % r) < B := by
  have h1 : B % r < r := Nat.mod_lt _ h0
  have h2 : r ≤ B := Nat.le_of_lt hr
  have h3 : B % r = (B - r) % r := by rw [Nat.mod_eq_sub_mod h2]
  have h4 : (B - r) % r ≤ B - r := Nat.mod_le _ _
  omega
theorem gcd_step (A B : Nat) : Nat.gcd B (A % B) = Nat.gcd A B := by
  rw [Nat.gcd_comm A B, Nat.gcd_rec B A, Nat.gcd_comm]
theorem lN0 {b : Nat} (hb : b < 2147483648) : (lN b = 0) = (b = 0) := propext (lN_eq (b := 0) hb (by omega))
theorem x_gcd_l : ∀ (k A B n i : Nat), A < 2147483648 → B < 2147483648 → B < 2 ^ k → 2 * k < n → i + 2 * k < 1000000 → f_X10_commonDivisor_9 n (lN A) (lN B) (nI i) = some (lN (Nat.gcd A B)) := by
  intro k
  induction k with
  | zero =>
    intro A B n i hA hB hk hn hi
    obtain ⟨n, rfl⟩ := fu_pos (show 0 < n by omega)
    have : B = 0 := by have : (2 : Nat) ^ 0 = 1 := rfl; omega
    subst this
    show b_X10_commonDivisor_9 _ (lN A) (lN 0) (nI i) = _
    unfold b_X10_commonDivisor_9 f_X10_commonDivisor_44
    rw [if_neg (nI_geL (by omega) (by omega)), if_pos (by rw [lgc_eq]; rfl), Nat.gcd_zero_right]
  | succ k ih =>
    intro A B n i hA hB hk hn hi
    obtain ⟨n, rfl⟩ := fu_pos (show 0 < n by omega)
    show b_X10_commonDivisor_9 _ (lN A) (lN B) (nI i) = _
    unfold b_X10_commonDivisor_9 f_X10_commonDivisor_44
    rw [if_neg (nI_geL (by omega) (by omega))]
    by_cases hb : B = 0
    · subst hb
      rw [if_pos (by rw [lgc_eq]; rfl), Nat.gcd_zero_right]
    · have hb2 : ¬ lN B = 0 := by rw [lN0 hB]; exact hb
      rw [if_neg (by rw [lgc_eq]; exact hb2), if_neg hb2, pk_lRem (by omega) (by omega) (by omega), nI_1]
      have hr : A % B < B := Nat.mod_lt _ (by omega)
      obtain ⟨n, rfl⟩ := fu_pos (show 0 < n by omega)
      show b_X10_commonDivisor_9 _ (lN B) (lN (A % B)) (nI (i + 1)) = _
      unfold b_X10_commonDivisor_9 f_X10_commonDivisor_44
      rw [if_neg (nI_geL (by omega) (by omega))]
      by_cases hr0 : A % B = 0
      · rw [if_pos (by rw [lgc_eq, hr0]; rfl), ← gcd_step, hr0, Nat.gcd_zero_right]
      · have hr2 : ¬ lN (A % B) = 0 := by rw [lN0 (by omega)]; exact hr0
        have hh := half_of hr (by omega)
        have hp : (2 : Nat) ^ (k + 1) = 2 ^ k * 2 := Nat.pow_succ 2 k
        rw [if_neg (by rw [lgc_eq]; exact hr2), if_neg hr2, pk_lRem (by omega) (by omega) (by omega), nI_1, ih (A % B) (B % (A % B)) n (i + 1 + 1) (by omega) (by omega) (by omega) (by omega) (by omega), gcd_step, gcd_step]
theorem m_gcd_l {P Q : Nat} (hP : P < 2147483648) (hQ : Q < 2147483648) (m : GW) : ∀ (k A B n : Nat), A < 2147483648 → B < 2147483648 → B < 2 ^ k → 2 * k < n → 0 < Nat.gcd A B → f_X11_tellsBy_6 n (lN P) (lN Q) (lN A) (lN B) m = some (1, gI (gL (gL m 0 3 (lN (P / Nat.gcd A B))) 0 4 (lN (Q / Nat.gcd A B))) 0 2 0) := by
  have last : ∀ (A n : Nat), A < 2147483648 → 0 < A → f_X11_tellsBy_6 (n + 1) (lN P) (lN Q) (lN A) (lN 0) m = some (1, gI (gL (gL m 0 3 (lN (P / A))) 0 4 (lN (Q / A))) 0 2 0) := by
    intro A n hA h0
    show b_X11_tellsBy_6 _ (lN P) (lN Q) (lN A) (lN 0) m = _
    unfold b_X11_tellsBy_6
    have hA2 : ¬ lN A = 0 := by rw [lN0 hA]; omega
    rw [if_pos (by rw [lgc_eq]; rfl), if_neg hA2, if_neg hA2, pk_lDiv (by omega) h0 (by omega), pk_lDiv (by omega) h0 (by omega)]
    rfl
  intro k
  induction k with
  | zero =>
    intro A B n hA hB hk hn hg
    obtain ⟨n, rfl⟩ := fu_pos (show 0 < n by omega)
    have : B = 0 := by have : (2 : Nat) ^ 0 = 1 := rfl; omega
    subst this
    rw [Nat.gcd_zero_right] at hg ⊢
    exact last A n hA hg
  | succ k ih =>
    intro A B n hA hB hk hn hg
    obtain ⟨n, rfl⟩ := fu_pos (show 0 < n by omega)
    by_cases hb : B = 0
    · subst hb
      rw [Nat.gcd_zero_right] at hg ⊢
      exact last A n hA hg
    · have hb2 : ¬ lN B = 0 := by rw [lN0 hB]; exact hb
      have hr : A % B < B := Nat.mod_lt _ (by omega)
      obtain ⟨n, rfl⟩ := fu_pos (show 0 < n by omega)
      have e1 : f_X11_tellsBy_6 (n + 1 + 1) (lN P) (lN Q) (lN A) (lN B) m = f_X11_tellsBy_6 (n + 1) (lN P) (lN Q) (lN B) (lN (A % B)) m := by
        show b_X11_tellsBy_6 _ (lN P) (lN Q) (lN A) (lN B) m = _
        unfold b_X11_tellsBy_6
        rw [if_neg (by rw [lgc_eq]; exact hb2), if_neg hb2, pk_lRem (by omega) (by omega) (by omega)]
      rw [e1]
      by_cases hr0 : A % B = 0
      · rw [← gcd_step, hr0, Nat.gcd_zero_right]
        exact last B n hB (by omega)
      · have hr2 : ¬ lN (A % B) = 0 := by rw [lN0 (by omega)]; exact hr0
        have hh := half_of hr (by omega)
        have hp : (2 : Nat) ^ (k + 1) = 2 ^ k * 2 := Nat.pow_succ 2 k
        have e2 : f_X11_tellsBy_6 (n + 1) (lN P) (lN Q) (lN B) (lN (A % B)) m = f_X11_tellsBy_6 n (lN P) (lN Q) (lN (A % B)) (lN (B % (A % B))) m := by
          show b_X11_tellsBy_6 _ (lN P) (lN Q) (lN B) (lN (A % B)) m = _
          unfold b_X11_tellsBy_6
          rw [if_neg (by rw [lgc_eq]; exact hr2), if_neg hr2, pk_lRem (by omega) (by omega) (by omega)]
        have hg2 : Nat.gcd (A % B) (B % (A % B)) = Nat.gcd A B := by rw [gcd_step, gcd_step]
        rw [e2, ih (A % B) (B % (A % B)) n (by omega) (by omega) (by omega) (by omega) (by rw [hg2]; exact hg), hg2]
section
variable {x m : GW}
theorem RR.frac (h : RR x m) (u v : Int64) : RR (gL (gL x 0 16 u) 0 17 v) (gL (gL m 0 3 u) 0 4 v) :=
  ⟨⟨h.1.1, rfl, rfl⟩, h.2.1, h.2.2.1, h.2.2.2.1, h.2.2.2.2.1, h.2.2.2.2.2⟩
theorem frac_both (h : RR x m) {A B : Nat} (hA : A < 2147483648) (hB : B < 2147483648) (hB0 : 0 < B) : Sm (F_X10_grantFraction (lN A) (lN B) x) (F_X11_tellsBy (lN A) (lN B) m) := by
  have hg : 0 < Nat.gcd A B := Nat.gcd_pos_of_pos_right _ hB0
  have e2 := m_gcd_l (P := A) (Q := B) hA hB m 31 A B FU hA hB hB (by have := FU_big; omega) hg
  unfold F_X11_tellsBy
  rw [e2]
  unfold F_X10_grantFraction f_X10_grantFraction_12 f_X10_grantFraction_57
  by_cases h0 : A = 0
  · subst h0
    rw [if_pos (by rw [lgc_eq]; rfl), Nat.gcd_zero_left, Nat.zero_div, Nat.div_self hB0]
    exact Sm.fin (h.frac 0 1) 1 0
  · have hgl : Nat.gcd A B < 2147483648 := Nat.lt_of_le_of_lt (Nat.gcd_le_right _ hB0) hB
    have hgn : ¬ lN (Nat.gcd A B) = 0 := by rw [lN0 hgl]; omega
    rw [if_neg (by rw [lgc_eq, lN0 hA]; exact h0), if_pos (by rw [lgc_gt]; exact (lN_lt (a := 0) (by omega) hB).mpr hB0), show F_X10_commonDivisor (lN A) (lN B) = _ from x_gcd_l 31 A B FU 0 hA hB hB (by have := FU_big; omega) (by omega), Option.bind_some, if_neg (by rw [lgc_le]; exact fun q => q ((lN_lt (a := 0) (by omega) hgl).mpr hg)), if_neg hgn, if_neg hgn, pk_lDiv (by omega) hg (by omega), pk_lDiv (by omega) hg (by omega)]
    exact Sm.fin (h.frac _ _) 1 0
theorem Sm.boo {o1 o2 : Option (Int32 × GW)} (h : Sm o1 o2) (hb : ∀ q, o2 = some q → q.1 = 0 ∨ q.1 = 1) : Sm (o1.bind fun q => if q.1 = 0 ∨ q.1 = 1 then some (q.1, q.2) else none) (o2.bind fun q => if q.1 = 0 ∨ q.1 = 1 then some (q.1, q.2) else none) := by
  obtain ⟨r, y, z, rfl, rfl, hR⟩ := h
  have hq := hb _ rfl
  rw [Option.bind_some, Option.bind_some, if_pos hq, if_pos hq]
  exact ⟨r, y, z, rfl, rfl, hR⟩
theorem frac_bool {A B : Nat} (hA : A < 2147483648) (hB : B < 2147483648) (hB0 : 0 < B) (q : Int32 × GW) (e : F_X11_tellsBy (lN A) (lN B) m = some q) : q.1 = 0 ∨ q.1 = 1 := by
  have hg : 0 < Nat.gcd A B := Nat.gcd_pos_of_pos_right _ hB0
  have e2 := m_gcd_l (P := A) (Q := B) hA hB m 31 A B FU hA hB hB (by have := FU_big; omega) hg
  have e3 : some q = _ := e.symm.trans e2
  rw [Option.some.inj e3]
  exact Or.inr rfl
theorem sTot_grey {a : Nat → Int32} {nc nr nk nl : Nat} (hi : Bi a nc nr nk nl) : ∃ G, G ≤ 99 * nk ∧ sTot a nk 2 = nI G ∧ ∀ c g, c < nk → a (27 + 7 * c + 2) = nI g → g ≤ 99 → g ≤ G := by
  have h := fo_ind (fun c t => t + a (27 + 7 * c + 2)) (fun i t => ∃ G, G ≤ 99 * i ∧ t = nI G ∧ ∀ c g, c < i → a (27 + 7 * c + 2) = nI g → g ≤ 99 → g ≤ G) nk 0 0 ⟨0, by omega, rfl, fun c g hc => absurd hc (by omega)⟩ (fun c t _ h2 ht => by
    obtain ⟨G, hG, eG, hm⟩ := ht
    obtain ⟨g, hg, eg⟩ := hi.grey (k := c) (by omega)
    refine ⟨G + g, by omega, by show t + a (27 + 7 * c + 2) = _; rw [eG, eg, nI_add], fun c' g' hc' e' hg' => ?_⟩
    by_cases e : c' = c
    · subst e
      have : g' = g := (nI_eq (by omega) (by omega)).mp (e'.symm.trans eg)
      omega
    · have := hm c' g' (by omega) e' hg'
      omega)
  rw [Nat.zero_add] at h
  exact h
theorem s_share (h : RR x m) (u : Int32) : Sm (F_X10_share u x) (F_X11_share u m) := by
  obtain ⟨nc, nr, nk, nl, hb, hi⟩ := h.bnk
  have hn := hi.cnt
  unfold F_X10_share F_X11_share
  rw [x_hasClerk hb hi, m_isClerk hi, Option.bind_some, Option.bind_some, ite01, ite01]
  by_cases hu : gin u nk
  · obtain ⟨c, hc, rfl⟩ := gin_of hu (by omega)
    obtain ⟨G, hG, eG, hm⟩ := sTot_grey hi
    obtain ⟨g, hg, eg⟩ := hi.grey hc
    have et : F_X11_together m (2 : Int32) = some (nI G) := (m_together hi (j := 2) (by omega)).trans (by rw [eG])
    rw [if_pos hu, if_pos hu, x_grey_all hb hi, et, eG, Option.bind_some, Option.bind_some]
    by_cases h0 : nI G = 0
    · rw [if_pos h0, if_pos h0]
      exact Sm.fin h 0 6
    · have hG0 : 0 < G := by
        apply Nat.pos_of_ne_zero
        intro e
        exact h0 (by rw [e]; rfl)
      rw [if_neg h0, if_neg h0, if_pos (gin_nI (by omega) (by omega)), nI_clamp (by omega), show x.1 21 c = m.1 1 (27 + 7 * c + 2) from hb.grey hc, m_clerk2 (by omega), Option.bind_some, Option.bind_some, eg, nI_l (by omega), nI_l (by omega)]
      exact (frac_both h (by omega) (by omega) hG0).boo (frac_bool (by omega) (by omega) hG0)
  · rw [if_neg hu, if_neg hu]
    exact Sm.fin h 0 1
/-! odds of shams -/
theorem x_power_l {b t : Nat} (hb : b < 2147483648) (ht : t < 1000) : ∀ k n i A, i + k = t → k < n → f_X10_power_5 n (nI b) (nI t) (lN A) (nI i) = some (lN (A * b ^ k)) := by
  intro k
  induction k with
  | zero =>
    intro n i A e h1
    obtain ⟨n, rfl⟩ := fu_pos h1
    show b_X10_power_5 _ (nI b) (nI t) (lN A) (nI i) = _
    unfold b_X10_power_5
    rw [if_pos (nI_le (by omega) (by omega)), Nat.pow_zero, Nat.mul_one]
  | succ k ih =>
    intro n i A e h1
    obtain ⟨n, rfl⟩ := fu_pos h1
    show b_X10_power_5 _ (nI b) (nI t) (lN A) (nI i) = _
    unfold b_X10_power_5
    rw [if_neg (nI_ge (by omega) (by omega)), nI_l hb, lN_mul, nI_1, ih n (i + 1) _ (by omega) (by omega), Nat.pow_succ, Nat.mul_assoc, Nat.mul_comm b]
theorem x_power {b t : Nat} (hb : b < 2147483648) (ht : t < 1000) : F_X10_power (nI b) (nI t) = some (lN (b ^ t)) := by
  have h := x_power_l hb ht t FU 0 1 (by omega) (by have := FU_big; omega)
  rw [Nat.one_mul] at h
  exact h
def wW (o n k : Nat) (i j t : Nat) : Nat := fo (fun s t => if pcN s < k then t else t + o ^ pcN s * (16 - o) ^ (n - pcN s)) i j t
theorem pcN_le {n s : Nat} (hn : n ≤ 8) (h : s < 2 ^ n) : pcN s ≤ n := by
  have h2 : 2 ^ n ≤ 2 ^ 8 := Nat.pow_le_pow_right (by decide) hn
  have key : ∀ i : Fin 9, ∀ j : Fin 256, j.val < 2 ^ i.val → pcN j.val ≤ i.val := by decide +kernel
  exact key ⟨n, by omega⟩ ⟨s, by omega⟩ h
/-- the reference's rows, round by round -/
def wP (o : Nat) : Nat → Nat → Nat
  | 0, i => if i = 0 then 1 else 0
  | c + 1, i => wP o c i * (16 - o) + (if i = 0 then 0 else wP o c (i - 1) * o)
theorem shams_same (o n k : Nat) (ho : o ≤ 16) (hn : n ≤ 6) (hk : k ≤ 6) : wW o n k 0 (2 ^ n) 0 = fo (fun i t => t + wP o n i) k (7 - k) 0 := by
  have key : ∀ a : Fin 17, ∀ b : Fin 7, ∀ c : Fin 7, wW a.val b.val c.val 0 (2 ^ b.val) 0 = fo (fun i t => t + wP a.val b.val i) c.val (7 - c.val) 0 := by decide +kernel
  exact key ⟨o, by omega⟩ ⟨n, by omega⟩ ⟨k, by omega⟩
theorem shams_le (o n k : Nat) (ho : o ≤ 16) (hn : n ≤ 6) (hk : k ≤ 6) : wW o n k 0 (2 ^ n) 0 ≤ 16777216 := by
  have key : ∀ a : Fin 17, ∀ b : Fin 7, ∀ c : Fin 7, wW a.val b.val c.val 0 (2 ^ b.val) 0 ≤ 16777216 := by decide +kernel
  exact key ⟨o, by omega⟩ ⟨n, by omega⟩ ⟨k, by omega⟩
theorem x_shams_l {o n k : Nat} (ho : o ≤ 16) (hn : n ≤ 6) (hk : k ≤ 6) (e0 : x.1 14 0 = nI o) (e5 : x.1 14 5 = nI n) : ∀ j n1 s t, s + j = 2 ^ n → j < n1 → f_X10_shams_21 n1 (nI k) (lN t) (nI s) x = ((F_X10_grantFraction (lN (wW o n k s j t)) (lN (16 ^ n)) x).bind fun q7 => (if q7.1 = 0 ∨ q7.1 = 1 then some (q7.1, q7.2) else none)) := by
  have h64 : 2 ^ n ≤ 256 := p256 (by omega)
  intro j
  induction j with
  | zero =>
    intro n1 s t e h1
    obtain ⟨n1, rfl⟩ := fu_pos h1
    show b_X10_shams_21 _ (nI k) (lN t) (nI s) x = _
    unfold b_X10_shams_21
    rw [e5, one_shl (by omega), if_pos (nI_le (by omega) (by omega)), show F_X10_power (16 : Int32) (nI n) = _ from x_power (b := 16) (by omega) (by omega), Option.bind_some]
    rfl
  | succ j ih =>
    intro n1 s t e h1
    obtain ⟨n1, rfl⟩ := fu_pos h1
    show b_X10_shams_21 _ (nI k) (lN t) (nI s) x = _
    unfold b_X10_shams_21 f_X10_shams_56 F_X10_waysOfShams
    have hp := pcN_le (show n ≤ 8 by omega) (show s < 2 ^ n by omega)
    rw [e5, e0, one_shl (by omega), if_neg (nI_ge (by omega) (by omega)), bc_eq (by omega), Option.bind_some, Option.bind_some, show (16 : Int32) - nI o = nI (16 - o) from nI_sub (a := 16) ho, nI_sub hp, x_power (by omega) (by omega), x_power (by omega) (by omega), Option.bind_some, Option.bind_some, Option.bind_some, lN_mul, lN_add, nI_1, ih n1 (s + 1) _ (by omega) (by omega), ih n1 (s + 1) _ (by omega) (by omega)]
    by_cases hq : pcN s < k
    · rw [if_pos (nI_lt hq (by omega))]
      have : wW o n k s (j + 1) t = wW o n k (s + 1) j t := by
        show wW o n k (s + 1) j (if pcN s < k then t else _) = _
        rw [if_pos hq]
      rw [this]
    · rw [if_neg (nI_nlt (Nat.le_of_not_lt hq) (by omega))]
      have : wW o n k s (j + 1) t = wW o n k (s + 1) j (t + o ^ pcN s * (16 - o) ^ (n - pcN s)) := by
        show wW o n k (s + 1) j (if pcN s < k then t else _) = _
        rw [if_neg hq]
      rw [this]
def pS (m : GW) (f : Nat → Int64) : GW := (m.1, fun i => if i = 15 then f else m.2 i)
theorem gL_pS (m : GW) (f : Nat → Int64) (k : Nat) (v : Int64) : gL (pS m f) 15 k v = pS m (vp_updL f k v) := by
  refine Prod.ext rfl (funext fun i => funext fun j => ?_)
  show (if i = 15 ∧ j = k then v else (if i = 15 then f else m.2 i) j) = (if i = 15 then vp_updL f k v else m.2 i) j
  by_cases h : i = 15
  · rw [if_pos h, if_pos h]
    show _ = (if j = k then v else f j)
    by_cases h2 : j = k
    · rw [if_pos ⟨h, h2⟩, if_pos h2]
    · rw [if_neg (fun q => h2 q.2), if_neg h2]
  · rw [if_neg (fun q => h q.1), if_neg h, if_neg h]
theorem pS_id (m : GW) : pS m (m.2 15) = m := by
  refine Prod.ext rfl (funext fun i => ?_)
  show (if i = 15 then m.2 15 else m.2 i) = m.2 i
  by_cases h : i = 15
  · rw [if_pos h, h]
  · rw [if_neg h]
theorem pS_15 (m : GW) (f : Nat → Int64) : (pS m f).2 15 = f := rfl
theorem RR.sh (h : RR x m) (f : Nat → Int64) : RR x (pS m f) := ⟨h.1, h.2.1, h.2.2.1, h.2.2.2.1, h.2.2.2.2.1, h.2.2.2.2.2⟩
/-- the sum at the end -/
theorem m_sh_sum {k : Nat} {f : Nat → Int64} {g : Nat → Nat} (hf : ∀ i, i < 7 → f i = lN (g i)) (B : Int64) : ∀ j n1 i t, i + j = 7 → j < n1 → f_X11_shams_152 n1 B (lN t) (nI i) (pS m f) = ((F_X11_tellsBy (lN (fo (fun i t => t + g i) i j t)) B (pS m f)).bind fun q10 => (if q10.1 = 0 ∨ q10.1 = 1 then some (q10.1, q10.2) else none)) := by
  intro j
  induction j with
  | zero =>
    intro n1 i t e h1
    obtain ⟨n1, rfl⟩ := fu_pos h1
    show b_X11_shams_152 _ B (lN t) (nI i) (pS m f) = _
    unfold b_X11_shams_152
    rw [if_pos (nI_leL (by omega) (by omega))]
    rfl
  | succ j ih =>
    intro n1 i t e h1
    obtain ⟨n1, rfl⟩ := fu_pos h1
    show b_X11_shams_152 _ B (lN t) (nI i) (pS m f) = _
    unfold b_X11_shams_152
    rw [if_neg (nI_geL (by omega) (by omega)), if_pos (gin_nI (by omega) (by omega)), nI_clamp (by omega), pS_15, hf i (by omega), lN_add, nI_1, ih n1 (i + 1) _ (by omega) (by omega)]
    rfl
/-- one clerk's round, from the last place on -/
theorem m_sh_in {o : Nat} (ho : o ≤ 16) (e4 : m.1 1 4 = nI o) (k56 : Int32 → Int64 → Int32 → GW → Option (Int32 × GW)) {g : Nat → Nat} (u : Int32) (A : Int64) (c : Nat) : ∀ j n1 (f : Nat → Int64), j ≤ 7 → j < n1 → (∀ i, i < j → f i = lN (g i)) → (∀ i, j ≤ i → i < 7 → f i = lN (g i * (16 - o) + (if i = 0 then 0 else g (i - 1) * o))) → ∃ f', (∀ i, i < 7 → f' i = lN (g i * (16 - o) + (if i = 0 then 0 else g (i - 1) * o))) ∧ f_X11_shams_71 k56 n1 u A (nI c) (nI j - 1) (pS m f) = k56 u (A * 16) (nI (c + 1)) (pS m f') := by
  intro j
  induction j with
  | zero =>
    intro n1 f hj h1 hlo hhi
    obtain ⟨n1, rfl⟩ := fu_pos h1
    refine ⟨f, fun i hi => hhi i (by omega) hi, ?_⟩
    show b_X11_shams_71 k56 _ u A (nI c) (nI 0 - 1) (pS m f) = _
    unfold b_X11_shams_71
    rw [if_pos (by decide), nI_1]
  | succ j ih =>
    intro n1 f hj h1 hlo hhi
    obtain ⟨n1, rfl⟩ := fu_pos h1
    show ∃ f', _ ∧ b_X11_shams_71 k56 _ u A (nI c) (nI (j + 1) - 1) (pS m f) = _
    rw [nI_pred]
    unfold b_X11_shams_71 f_X11_shams_126
    rw [if_neg (nI_pos (by omega)), if_pos (gin_nI (by omega) (by omega)), show (pS m f).1 1 4 = nI o from e4, show (16 : Int32) - nI o = nI (16 - o) from nI_sub (a := 16) ho, nI_l (by omega), nI_l (by omega)]
    by_cases h0 : j = 0
    · subst h0
      rw [if_pos nI_0, if_pos (gin_nI (by omega) (by omega)), nI_clamp (n := 0) (by omega), pS_15, hlo 0 (by omega), lN_mul, gL_pS, show nI 0 + (-1 : Int32) = nI 0 - (1 : Int32) by decide, show lN (g 0 * (16 - o)) + (0 : Int64) = lN (g 0 * (16 - o) + 0) from lN_add (g 0 * (16 - o)) 0]
      have q := ih n1 (vp_updL f 0 (lN (g 0 * (16 - o) + 0))) (by omega) (by omega) (fun i hi => absurd hi (by omega)) (fun i hi hi2 => by
        by_cases e : i = 0
        · subst e; rw [pk_uLs, if_pos rfl]
        · rw [pk_uLn e]; exact hhi i (by omega) hi2)
      exact q
    · rw [if_neg (nI_ne0 (by omega) (by omega)), show nI j - (1 : Int32) = nI (j - 1) from nI_sub (b := 1) (by omega), if_pos (gin_nI (by omega) (by omega)), if_pos (gin_nI (by omega) (by omega)), nI_clamp (n := j) (by omega), nI_clamp (n := j - 1) (by omega), pS_15, hlo j (by omega), hlo (j - 1) (by omega), lN_mul, lN_mul, lN_add, gL_pS]
      have q := ih n1 (vp_updL f j (lN (g j * (16 - o) + g (j - 1) * o))) (by omega) (by omega) (fun i hi => by rw [pk_uLn (by omega)]; exact hlo i (by omega)) (fun i hi hi2 => by
        by_cases e : i = j
        · subst e; rw [pk_uLs, if_neg h0]
        · rw [pk_uLn e]; exact hhi i (by omega) hi2)
      rw [show nI j - (1 : Int32) = nI (j - 1) from nI_sub (b := 1) (by omega)] at q
      rw [show nI j + (-1 : Int32) = nI (j - 1) by
        rw [← show nI j - (1 : Int32) = nI (j - 1) from nI_sub (b := 1) (by omega), Int32.sub_eq_add_neg]]
      exact q
theorem m_sh_out {o n k : Nat} (ho : o ≤ 16) (hn : n ≤ 6) (hk : k ≤ 6) (e4 : m.1 1 4 = nI o) (e2 : m.1 1 2 = nI n) : ∀ j n1 c (f : Nat → Int64), c + j = n → j < n1 → (∀ i, i < 7 → f i = lN (wP o c i)) → ∃ f', f_X11_shams_56 n1 (nI k) (lN (16 ^ c)) (nI c) (pS m f) = ((F_X11_tellsBy (lN (fo (fun i t => t + wP o n i) k (7 - k) 0)) (lN (16 ^ n)) (pS m f')).bind fun q10 => (if q10.1 = 0 ∨ q10.1 = 1 then some (q10.1, q10.2) else none)) := by
  intro j
  induction j with
  | zero =>
    intro n1 c f e h1 hf
    obtain ⟨n1, rfl⟩ := fu_pos h1
    refine ⟨f, ?_⟩
    show b_X11_shams_56 _ (nI k) _ (nI c) (pS m f) = _
    unfold b_X11_shams_56
    rw [show (pS m f).1 1 2 = nI n from e2, if_pos (nI_le (by omega) (by omega)), show c = n by omega]
    exact m_sh_sum (k := k) (g := wP o n) (fun i hi => by have := hf i hi; rw [show c = n by omega] at this; exact this) (lN (16 ^ n)) (7 - k) FU k 0 (by omega) (by have := FU_big; omega)
  | succ j ih =>
    intro n1 c f e h1 hf
    obtain ⟨n1, rfl⟩ := fu_pos h1
    show ∃ f', b_X11_shams_56 _ (nI k) _ (nI c) (pS m f) = _
    unfold b_X11_shams_56
    rw [show (pS m f).1 1 2 = nI n from e2, if_neg (nI_ge (by omega) (by omega))]
    obtain ⟨f1, h2, h3⟩ := m_sh_in ho e4 (f_X11_shams_56 n1) (g := wP o c) (nI k) (lN (16 ^ c)) c 7 FU f (by omega) (by have := FU_big; omega) hf (fun i h4 h5 => absurd h5 (by omega))
    obtain ⟨f', h4⟩ := ih n1 (c + 1) f1 (by omega) (by omega) h2
    refine ⟨f', ?_⟩
    rw [show f_X11_shams_71 (f_X11_shams_56 n1) FU (nI k) (lN (16 ^ c)) (nI c) (6 : Int32) (pS m f) = _ from h3, show lN (16 ^ c) * (16 : Int64) = lN (16 ^ (c + 1)) from lN_mul (16 ^ c) 16]
    exact h4
theorem m_sh_init {k : Nat} : ∀ j n1 i (f : Nat → Int64), i + j = 7 → j < n1 → (∀ l, l < i → f l = lN (wP 0 0 l)) → ∃ f', (∀ l, l < 7 → f' l = lN (wP 0 0 l)) ∧ f_X11_shams_23 n1 (nI k) (1 : Int64) (nI i) (pS m f) = f_X11_shams_56 FU (nI k) (lN 1) (nI 0) (pS m f') := by
  intro j
  induction j with
  | zero =>
    intro n1 i f e h1 hf
    obtain ⟨n1, rfl⟩ := fu_pos h1
    refine ⟨f, fun l hl => hf l (by omega), ?_⟩
    show b_X11_shams_23 _ (nI k) (1 : Int64) (nI i) (pS m f) = _
    unfold b_X11_shams_23
    rw [if_pos (nI_leL (by omega) (by omega))]
    rfl
  | succ j ih =>
    intro n1 i f e h1 hf
    obtain ⟨n1, rfl⟩ := fu_pos h1
    show ∃ f', _ ∧ b_X11_shams_23 _ (nI k) (1 : Int64) (nI i) (pS m f) = _
    unfold b_X11_shams_23 f_X11_shams_46
    rw [if_neg (nI_geL (by omega) (by omega)), if_pos (gin_nI (by omega) (by omega)), if_pos (gin_nI (by omega) (by omega)), nI_clamp (by omega), gL_pS, gL_pS, nI_1]
    by_cases h0 : i = 0
    · rw [if_pos (by rw [h0]; rfl)]
      exact ih n1 (i + 1) _ (by omega) (by omega) (fun l hl => by
        rw [show l = i by omega, pk_uLs, h0]; rfl)
    · rw [if_neg (nI_ne0 (by omega) (by omega))]
      exact ih n1 (i + 1) _ (by omega) (by omega) (fun l hl => by
        by_cases e : l = i
        · rw [e, pk_uLs]
          show (0 : Int64) = lN (if i = 0 then 1 else 0)
          rw [if_neg h0]; rfl
        · rw [pk_uLn e]; exact hf l (by omega))
theorem s_shams (h : RR x m) (u : Int32) : Sm (F_X10_shams u x) (F_X11_shams u m) := by
  obtain ⟨nc, nr, nk, nl, hb, hi⟩ := h.bnk
  have hn := hi.cnt
  unfold F_X10_shams F_X11_shams
  rw [show F_X10_between u (0 : Int32) (6 : Int32) = some (if btw u 0 6 then 1 else 0) from x_btw u 0 6, show F_X11_isFrom u.toInt64 (0 : Int64) (6 : Int64) = some (if btw u 0 6 then 1 else 0) from m_from u (p := 0) (q := 6) (by omega) (by omega), Option.bind_some, Option.bind_some, ite01, ite01]
  by_cases hu : btw u 0 6
  · obtain ⟨k, _, hk, rfl⟩ := btw_of hu (by omega) (by omega)
    obtain ⟨o, ho, eo⟩ := hi.odds
    rw [if_pos hu, if_pos hu]
    have e0 : x.1 14 0 = nI o := hb.odds.trans eo
    have e5 : x.1 14 5 = nI nk := hb.n2
    obtain ⟨f1, h1, h2⟩ := m_sh_init (m := m) (k := k) 7 FU 0 (m.2 15) (by omega) (by have := FU_big; omega) (fun l hl => absurd hl (by omega))
    rw [pS_id] at h2
    obtain ⟨f2, h3⟩ := m_sh_out (m := m) ho (by omega) hk eo hi.n2 nk FU 0 f1 (by omega) (by have := FU_big; omega) h1
    have hw := shams_le o nk k ho (by omega) hk
    have hp : 16 ^ nk ≤ 16777216 := by
      have : (16 : Nat) ^ nk ≤ 16 ^ 6 := Nat.pow_le_pow_right (by decide) (by omega)
      exact this
    have hp0 : 0 < 16 ^ nk := Nat.pow_pos (by decide)
    rw [show f_X11_shams_23 FU (nI k) (1 : Int64) (0 : Int32) m = _ from h2, show f_X11_shams_56 FU (nI k) (lN 1) (nI 0) (pS m f1) = _ from h3, show f_X10_shams_21 FU (nI k) (0 : Int64) (0 : Int32) x = _ from x_shams_l ho (by omega) hk e0 e5 (2 ^ nk) FU 0 0 (by omega) (by have := p256 (n := nk) (by omega); have := FU_big; omega), ← shams_same o nk k ho (by omega) hk]
    exact (frac_both (h.sh f2) (by omega) (by omega) hp0).boo (frac_bool (by omega) (by omega) hp0)
  · rw [if_neg hu, if_neg hu]
    exact Sm.fin h 0 1
end
