/-! How still a corner is. -/
section
variable {x m u : GW}
/-- what both say of the twos -/
theorem twos_l {t s n c : Nat} (ht : t < 4) (hs : s ≤ 3) (hn : n ≤ 60) (hc : 2 * c ≤ n) (h6 : u.1 6 t = nI s) (h7 : u.1 7 t = nI n) (hr : ∀ k, k < n → u.2 (2 + t) k = m.2 5 (60 * t + k)) : ∀ k n1 n2 i, i + k = 2 * c → k < n1 → k < n2 → ((f_X9_whyNoTwos_46 u n1 (nI t) (nI c) (nI i) = some 5 ∧ f_X11_wrongSeen_49 m n2 (nI t) (nI c) (nI i) = some 5) ∨ (f_X9_whyNoTwos_46 u n1 (nI t) (nI c) (nI i) = some 0 ∧ f_X11_wrongSeen_49 m n2 (nI t) (nI c) (nI i) = some 0)) := by
  intro k
  induction k with
  | zero =>
    intro n1 n2 i e h1 h2
    obtain ⟨n1, rfl⟩ := fu_pos h1
    obtain ⟨n2, rfl⟩ := fu_pos h2
    refine Or.inr ⟨?_, ?_⟩
    · show b_X9_whyNoTwos_46 _ u (nI t) (nI c) (nI i) = _
      unfold b_X9_whyNoTwos_46
      rw [nq_Lmul, if_pos (nI_le (by show 2 * c ≤ i; omega) (by omega))]
    · show b_X11_wrongSeen_49 _ m (nI t) (nI c) (nI i) = _
      unfold b_X11_wrongSeen_49
      rw [nq_Lmul, if_pos (nI_le (by show 2 * c ≤ i; omega) (by omega))]
  | succ k ih =>
    intro n1 n2 i e h1 h2
    obtain ⟨n1, rfl⟩ := fu_pos h1
    obtain ⟨n2, rfl⟩ := fu_pos h2
    show (b_X9_whyNoTwos_46 _ u (nI t) (nI c) (nI i) = _ ∧ b_X11_wrongSeen_49 _ m (nI t) (nI c) (nI i) = _) ∨ (b_X9_whyNoTwos_46 _ u (nI t) (nI c) (nI i) = _ ∧ b_X11_wrongSeen_49 _ m (nI t) (nI c) (nI i) = _)
    unfold b_X9_whyNoTwos_46 b_X11_wrongSeen_49 F_X11_isFrom
    rw [nq_Lmul, if_neg (nI_ge (by show i < 2 * c; omega) (by show 2 * c < _; omega)), if_neg (nI_ge (by show i < 2 * c; omega) (by show 2 * c < _; omega)), x_at ht hs h6 h7 hn (i := i) (by omega), Option.bind_some, Option.bind_some, hr i (by omega), nq_Lmul, nI_add, if_pos (gin_nI (by show 60 * t + i < 240; omega) (by omega)), nI_clamp (n := 60 * t + i) (by omega), nI_1]
    by_cases q1 : lg_cmp (m.2 5 (60 * t + i)) 0 < 0
    · rw [if_pos q1, if_pos q1, Option.bind_some, if_pos zer_eq]
      exact Or.inl ⟨rfl, rfl⟩
    · rw [if_neg q1, if_neg q1]
      by_cases q2 : (99 : Int64) < m.2 5 (60 * t + i)
      · rw [if_neg (by rw [lgc_le]; exact fun q => q q2), if_pos (by rw [lgc_gt]; exact q2), Option.bind_some, if_pos zer_eq]
        exact Or.inl ⟨rfl, rfl⟩
      · rw [if_pos (by rw [lgc_le]; exact q2), if_neg (by rw [lgc_gt]; exact q2), Option.bind_some, if_neg one_ne]
        exact ih n1 n2 (i + 1) (by omega) (by omega) (by omega)
theorem twos_both (hT : ∀ t, t < 4 → TT u m t) (p q : Int32) : (∃ v, v ≤ 5 ∧ 1 ≤ v ∧ F_X9_whyNoTwos u p q = some (nI v) ∧ F_X11_wrongSeen m p q = some (nI v)) ∨ (∃ t s n c, t < 4 ∧ s ≤ 3 ∧ n ≤ 60 ∧ 2 * c ≤ n ∧ c ≤ 20 ∧ p = nI t ∧ q = nI c ∧ u.1 6 t = nI s ∧ u.1 7 t = nI n ∧ (∀ k, k < n → u.2 (2 + t) k = m.2 5 (60 * t + k)) ∧ F_X9_whyNoTwos u p q = some 0 ∧ F_X11_wrongSeen m p q = some 0) := by
  unfold F_X9_whyNoTwos F_X11_wrongSeen
  rw [x_isTray, m_isTray, show F_X11_isFrom q.toInt64 (0 : Int64) (20 : Int64) = some (if btw q 0 20 then 1 else 0) from m_from q (p := 0) (q := 20) (by omega) (by omega), Option.bind_some, Option.bind_some, Option.bind_some, ite01, ite01, ite01, btw_rngL (q := 20)]
  by_cases hp : gin p 4
  · obtain ⟨t, ht, rfl⟩ := gin_of hp (by omega)
    rw [if_pos hp, if_pos hp]
    by_cases hq : btw q 0 20
    · obtain ⟨c, _, hc, rfl⟩ := btw_of hq (by omega) (by omega)
      rw [if_pos hq, if_pos hq, if_pos hp, x_isThere u ht, Option.bind_some, nI_clamp (n := t) (by omega)]
      rcases hT t ht with ⟨h1, h2⟩ | ⟨s, n, hs, hn, h1, h2, h3, h4, h5⟩
      · rw [if_pos h1, if_pos h2, if_pos zer_eq]
        exact Or.inl ⟨2, by omega, by omega, rfl, rfl⟩
      · rw [h1, h4, if_neg (nI_nm (by omega)), if_neg one_ne, if_neg (nI_nm (by omega)), nq_Lmul, show F_X9_hasFrom u (nI t) (0 : Int32) (nI (OfNat.ofNat 2 * c)) = _ from x_hasFrom ht hs h1 h3 hn 0 (2 * c) (by omega) (by omega), Option.bind_some, ite01]
        by_cases hl : 2 * c ≤ n
        · rw [if_pos (by omega), if_pos (nI_le (by exact hl) (by omega))]
          rcases twos_l (u := u) (m := m) ht hs hn hl h1 h3 h5 (2 * c) FU FU 0 (by omega) (by have := FU_big; omega) (by have := FU_big; omega) with ⟨e1, e2⟩ | ⟨e1, e2⟩
          · exact Or.inl ⟨5, by omega, by omega, e1, e2⟩
          · exact Or.inr ⟨t, s, n, c, ht, hs, hn, hl, hc, rfl, rfl, h1, h3, h5, e1, e2⟩
        · rw [if_neg (by omega), if_neg (nI_ge (by show n < 2 * c; omega) (by show 2 * c < _; omega))]
          exact Or.inl ⟨3, by omega, by omega, rfl, rfl⟩
    · rw [if_neg hq, if_neg hq]
      exact Or.inl ⟨1, by omega, by omega, rfl, rfl⟩
  · rw [if_neg hp, if_neg hp]
    exact Or.inl ⟨1, by omega, by omega, rfl, rfl⟩
/-- does a still fit the i-th two -/
abbrev fC (f : Nat → Int64) (s i : Nat) : Prop := (imin (99 : Int32) (nI s * (f (2 * i)).toInt32)).toInt64 = f (2 * i + 1)
def fF (f : Nat → Int64) (s i k b : Nat) : Nat := fo (fun i b => if fC f s i then b else 0) i k b
def fb (f : Nat → Int64) (c s : Nat) : Nat := fF f s 0 c 1
theorem fF_01 (f : Nat → Int64) (s i k : Nat) {b : Nat} (hb : b ≤ 1) : fF f s i k b ≤ 1 :=
  fo_ind (fun i b => if fC f s i then b else 0) (fun _ b => b ≤ 1) k i b hb (fun j t _ _ h => by
    show (if fC f s j then t else 0) ≤ 1
    split
    · exact h
    · omega)
def fS (f : Nat → Int64) (c s k S : Nat) : Nat := fo (fun s S => if fb f c s = 0 then S else S ||| 2 ^ s) s k S
theorem x_fits_in {f : Nat → Int64} {t s n c : Nat} (ht : t < 4) (hs : s ≤ 3) (hn : n ≤ 60) (hc : 2 * c ≤ n) (h6 : u.1 6 t = nI s) (h7 : u.1 7 t = nI n) (hr : ∀ k, k < n → u.2 (2 + t) k = f k) (k5 : Int32 → Int32 → Int32 → Int32 → Option Int32) {S y : Nat} (hy : y < 10) : ∀ k n1 i b, i + k = c → k < n1 → b ≤ 1 → f_X9_fittingStills_18 k5 u n1 (nI t) (nI c) (nI S) (nI y) (nI b) (nI i) = k5 (nI t) (nI c) (nI (if fF f y i k b = 0 then S else S ||| 2 ^ y)) (nI (y + 1)) := by
  intro k
  induction k with
  | zero =>
    intro n1 i b e h1 hb
    obtain ⟨n1, rfl⟩ := fu_pos h1
    show b_X9_fittingStills_18 k5 _ u (nI t) (nI c) (nI S) (nI y) (nI b) (nI i) = k5 (nI t) (nI c) (nI (if b = 0 then S else S ||| 2 ^ y)) (nI (y + 1))
    unfold b_X9_fittingStills_18 f_X9_fittingStills_90
    rw [if_pos (nI_le (by omega) (by omega)), one_shl (by omega), nI_or, nI_1]
    by_cases e0 : b = 0
    · rw [if_pos e0, if_pos (by rw [e0]; rfl)]
    · rw [if_neg e0, if_neg (nI_ne0 (by omega) (by omega))]
  | succ k ih =>
    intro n1 i b e h1 hb
    obtain ⟨n1, rfl⟩ := fu_pos h1
    show b_X9_fittingStills_18 k5 _ u (nI t) (nI c) (nI S) (nI y) (nI b) (nI i) = k5 (nI t) (nI c) (nI (if fF f y (i + 1) k (if fC f y i then b else 0) = 0 then S else S ||| 2 ^ y)) (nI (y + 1))
    unfold b_X9_fittingStills_18 f_X9_fittingStills_69 f_X9_fittingStills_70
    rw [if_neg (nI_ge (by omega) (by omega)), nq_Lmul, nI_1, nI_1, show F_X9_at u (nI t) (nI (OfNat.ofNat 2 * i)) = _ from x_at ht hs h6 h7 hn (i := 2 * i) (by omega), Option.bind_some, hr _ (by omega), x_greyGrown, Option.bind_some, show F_X9_at u (nI t) (nI (OfNat.ofNat 2 * i + 1)) = _ from x_at ht hs h6 h7 hn (i := 2 * i + 1) (by omega), Option.bind_some, hr _ (by omega), Int32.zero_add]
    by_cases e0 : b = 0
    · have : nI b = 0 := by rw [e0]; rfl
      rw [if_pos this, e0, ite_self, show (0 : Int32) = nI 0 from rfl, ih n1 (i + 1) 0 (by omega) (by omega) (by omega)]
    · have e1 : b = 1 := by omega
      rw [if_neg (nI_ne0 (by omega) (by omega)), e1]
      by_cases q : fC f y i
      · rw [if_pos (show lg_cmp (imin (99 : Int32) (nI y * (f (2 * i)).toInt32)).toInt64 (f (2 * i + 1)) = 0 by rw [lgc_eq]; exact q), if_pos q, show (1 : Int32) = nI 1 from rfl, ih n1 (i + 1) 1 (by omega) (by omega) (by omega)]
      · rw [if_neg (show ¬ lg_cmp (imin (99 : Int32) (nI y * (f (2 * i)).toInt32)).toInt64 (f (2 * i + 1)) = 0 by rw [lgc_eq]; exact q), if_neg q, show (0 : Int32) = nI 0 from rfl, ih n1 (i + 1) 0 (by omega) (by omega) (by omega)]
theorem x_fits_l {f : Nat → Int64} {t s n c : Nat} (ht : t < 4) (hs : s ≤ 3) (hn : n ≤ 60) (hc : 2 * c ≤ n) (h6 : u.1 6 t = nI s) (h7 : u.1 7 t = nI n) (hr : ∀ k, k < n → u.2 (2 + t) k = f k) : ∀ k n1 y S, y + k = 10 → k < n1 → f_X9_fittingStills_5 u n1 (nI t) (nI c) (nI S) (nI y) = some (nI (fS f c y k S)) := by
  intro k
  induction k with
  | zero =>
    intro n1 y S e h1
    obtain ⟨n1, rfl⟩ := fu_pos h1
    show b_X9_fittingStills_5 _ u (nI t) (nI c) (nI S) (nI y) = _
    unfold b_X9_fittingStills_5
    rw [if_pos (nI_gtL (by omega) (by omega))]
    rfl
  | succ k ih =>
    intro n1 y S e h1
    obtain ⟨n1, rfl⟩ := fu_pos h1
    show b_X9_fittingStills_5 _ u (nI t) (nI c) (nI S) (nI y) = _
    unfold b_X9_fittingStills_5
    rw [if_neg (nI_ngtL (by omega) (by omega))]
    have q := x_fits_in (f := f) ht hs hn hc h6 h7 hr (f_X9_fittingStills_5 u n1) (S := S) (y := y) (by omega) c FU 0 1 (by omega) (by have := FU_big; omega) (by omega)
    refine Eq.trans q ?_
    rw [ih n1 (y + 1) _ (by omega) (by omega)]
    rfl
def pF (m : GW) (g : Nat → Int32) : GW := (fun i => if i = 10 then g else m.1 i, m.2)
theorem gI_pF (m : GW) (g : Nat → Int32) (k : Nat) (v : Int32) : gI (pF m g) 10 k v = pF m (upd g k v) := by
  refine Prod.ext (funext fun i => funext fun j => ?_) rfl
  show (if i = 10 ∧ j = k then v else (if i = 10 then g else m.1 i) j) = (if i = 10 then upd g k v else m.1 i) j
  by_cases h : i = 10
  · rw [if_pos h, if_pos h]
    show _ = (if j = k then v else g j)
    by_cases h2 : j = k
    · rw [if_pos ⟨h, h2⟩, if_pos h2]
    · rw [if_neg (fun q => h2 q.2), if_neg h2]
  · rw [if_neg (fun q => h q.1), if_neg h, if_neg h]
theorem pF_id (m : GW) : pF m (m.1 10) = m := by
  refine Prod.ext (funext fun i => ?_) rfl
  show (if i = 10 then m.1 10 else m.1 i) = m.1 i
  by_cases h : i = 10
  · rw [if_pos h, h]
  · rw [if_neg h]
theorem pF_10 (m : GW) (g : Nat → Int32) : (pF m g).1 10 = g := rfl
theorem upd_upd (f : Nat → Int32) (i : Nat) (x y : Int32) : upd (upd f i x) i y = upd f i y := by
  funext k
  by_cases e : k = i
  · subst e; rw [pk_us, pk_us]
  · rw [pk_un e, pk_un e, pk_un e]
theorem m_fits_in {t c : Nat} (ht : t < 4) (hc : 2 * c ≤ 60) (k5 : Int32 → Int32 → Int32 → Int32 → GW → Option (Int32 × GW)) {y : Nat} (hy : y < 10) (g : Nat → Int32) (C : Nat) : ∀ k n1 i b, i + k = c → k < n1 → b ≤ 1 → f_X11_laysFits_23 k5 n1 (nI t) (nI c) (nI C) (nI y) (nI i) (pF m (upd g y (nI b))) = k5 (nI t) (nI c) (nI (if fF (fun j => m.2 5 (60 * t + j)) y i k b = 0 then C else C + 1)) (nI (y + 1)) (pF m (upd g y (nI (fF (fun j => m.2 5 (60 * t + j)) y i k b)))) := by
  intro k
  induction k with
  | zero =>
    intro n1 i b e h1 hb
    obtain ⟨n1, rfl⟩ := fu_pos h1
    show b_X11_laysFits_23 k5 _ (nI t) (nI c) (nI C) (nI y) (nI i) _ = k5 (nI t) (nI c) (nI (if b = 0 then C else C + 1)) (nI (y + 1)) (pF m (upd g y (nI b)))
    unfold b_X11_laysFits_23 f_X11_laysFits_97
    rw [if_pos (nI_le (by omega) (by omega)), if_pos (gin_nI (by omega) (by omega)), nI_clamp (by omega), pF_10, pk_us, nI_1, Int32.add_zero, nI_1]
    by_cases e0 : b = 0
    · rw [if_pos e0, if_pos (by rw [e0]; rfl)]
    · rw [if_neg e0, if_neg (nI_ne0 (by omega) (by omega))]
  | succ k ih =>
    intro n1 i b e h1 hb
    obtain ⟨n1, rfl⟩ := fu_pos h1
    show b_X11_laysFits_23 k5 _ (nI t) (nI c) (nI C) (nI y) (nI i) _ = k5 (nI t) (nI c) (nI (if fF (fun j => m.2 5 (60 * t + j)) y (i + 1) k (if fC (fun j => m.2 5 (60 * t + j)) y i then b else 0) = 0 then C else C + 1)) (nI (y + 1)) (pF m (upd g y (nI (fF (fun j => m.2 5 (60 * t + j)) y (i + 1) k (if fC (fun j => m.2 5 (60 * t + j)) y i then b else 0)))))
    unfold b_X11_laysFits_23 f_X11_laysFits_75 F_X11_greyOf
    rw [if_neg (nI_ge (by omega) (by omega)), nq_Lmul, nq_Lmul, nI_add, nI_1, nI_1, if_pos (gin_nI (by show 60 * t + 2 * i < 240; omega) (by omega)), Option.bind_some, if_pos (gin_nI (by show 60 * t + 2 * i + 1 < 240; omega) (by omega)), if_pos (gin_nI (by omega) (by omega)), nI_clamp (n := 60 * t + 2 * i) (by omega), nI_clamp (n := 60 * t + 2 * i + 1) (by omega), nI_clamp (n := y) (by omega), gI_pF, upd_upd]
    by_cases q : fC (fun j => m.2 5 (60 * t + j)) y i
    · rw [if_pos (show lg_cmp (imin (99 : Int32) (nI y * ((pF m (upd g y (nI b))).2 5 (60 * t + 2 * i)).toInt32)).toInt64 ((pF m (upd g y (nI b))).2 5 (60 * t + 2 * i + 1)) = 0 by rw [lgc_eq]; exact q), if_pos q, ih n1 (i + 1) b (by omega) (by omega) hb]
    · rw [if_neg (show ¬ lg_cmp (imin (99 : Int32) (nI y * ((pF m (upd g y (nI b))).2 5 (60 * t + 2 * i)).toInt32)).toInt64 ((pF m (upd g y (nI b))).2 5 (60 * t + 2 * i + 1)) = 0 by rw [lgc_eq]; exact q), if_neg q, show vp_nar .boolean (0 : Int32) = nI 0 by decide, ih n1 (i + 1) 0 (by omega) (by omega) (by omega)]
def fG (f : Nat → Int64) (c y : Nat) (g : Nat → Int32) : Nat → Int32 := fun j => if j < y then nI (fb f c j) else g j
theorem m_fits_l {t c : Nat} (ht : t < 4) (hc : 2 * c ≤ 60) (g : Nat → Int32) : ∀ k n1 y C, y + k = 10 → k < n1 → f_X11_laysFits_5 n1 (nI t) (nI c) (nI C) (nI y) (pF m (fG (fun j => m.2 5 (60 * t + j)) c y g)) = some (nI (fo (fun s C => if fb (fun j => m.2 5 (60 * t + j)) c s = 0 then C else C + 1) y k C), pF m (fG (fun j => m.2 5 (60 * t + j)) c 10 g)) := by
  intro k
  induction k with
  | zero =>
    intro n1 y C e h1
    obtain ⟨n1, rfl⟩ := fu_pos h1
    show b_X11_laysFits_5 _ (nI t) (nI c) (nI C) (nI y) _ = _
    unfold b_X11_laysFits_5
    rw [if_pos (nI_gtL (by omega) (by omega)), show y = 10 by omega]
    rfl
  | succ k ih =>
    intro n1 y C e h1
    obtain ⟨n1, rfl⟩ := fu_pos h1
    show b_X11_laysFits_5 _ (nI t) (nI c) (nI C) (nI y) _ = _
    unfold b_X11_laysFits_5
    rw [if_neg (nI_ngtL (by omega) (by omega)), if_pos (gin_nI (by omega) (by omega)), nI_clamp (by omega), gI_pF, show vp_nar .boolean (1 : Int32) = nI 1 by decide]
    have q := m_fits_in (m := m) ht hc (f_X11_laysFits_5 n1) (y := y) (by omega) (fG (fun j => m.2 5 (60 * t + j)) c y g) C c FU 0 1 (by omega) (by have := FU_big; omega) (by omega)
    refine Eq.trans q ?_
    have e2 : upd (fG (fun j => m.2 5 (60 * t + j)) c y g) y (nI (fF (fun j => m.2 5 (60 * t + j)) y 0 c 1)) = fG (fun j => m.2 5 (60 * t + j)) c (y + 1) g := by
      funext j
      unfold fG
      by_cases e1 : j = y
      · subst e1; rw [pk_us, if_pos (by omega)]; rfl
      · rw [pk_un e1]
        by_cases e3 : j < y
        · rw [if_pos e3, if_pos (by omega)]
        · rw [if_neg e3, if_neg (by omega)]
    rw [e2, ih n1 (y + 1) _ (by omega) (by omega)]
    rfl
/-- the set of stills that fit -/
def fSt (f : Nat → Int64) (c : Nat) : Nat := fS f c 0 10 0
theorem fSt_spec (f : Nat → Int64) (c : Nat) : fSt f c < 1024 ∧ ∀ k, k < 10 → (fSt f c).testBit k = decide (fb f c k ≠ 0) := by
  have h := fo_ind (fun s S => if fb f c s = 0 then S else S ||| 2 ^ s) (fun i S => S < 2 ^ i ∧ ∀ k, k < i → S.testBit k = decide (fb f c k ≠ 0)) 10 0 0 ⟨by decide, fun k hk => absurd hk (by omega)⟩ (fun s S _ _ hS => by
    have h2 : (2 : Nat) ^ s < 2 ^ (s + 1) := Nat.pow_lt_pow_right (by decide) (by omega)
    show (if fb f c s = 0 then S else S ||| 2 ^ s) < 2 ^ (s + 1) ∧ ∀ k, k < s + 1 → (if fb f c s = 0 then S else S ||| 2 ^ s).testBit k = decide (fb f c k ≠ 0)
    by_cases e : fb f c s = 0
    · rw [if_pos e]
      refine ⟨Nat.lt_trans hS.1 h2, fun k hk => ?_⟩
      by_cases e2 : k = s
      · subst e2
        rw [Nat.testBit_lt_two_pow hS.1, e]
        rfl
      · exact hS.2 k (by omega)
    · rw [if_neg e]
      refine ⟨Nat.or_lt_two_pow (Nat.lt_trans hS.1 h2) h2, fun k hk => ?_⟩
      rw [or_bit]
      by_cases e2 : k = s
      · subst e2; simp [e]
      · rw [hS.2 k (by omega)]
        simp [Ne.symm e2])
  exact h
theorem fits_both {t s n c : Nat} (ht : t < 4) (hs : s ≤ 3) (hn : n ≤ 60) (hc : 2 * c ≤ n) (h6 : u.1 6 t = nI s) (h7 : u.1 7 t = nI n) (hr : ∀ k, k < n → u.2 (2 + t) k = m.2 5 (60 * t + k)) : F_X9_fittingStills u (nI t) (nI c) = some (nI (fSt (fun j => m.2 5 (60 * t + j)) c)) ∧ F_X11_laysFits (nI t) (nI c) m = some (nI (pcN (fSt (fun j => m.2 5 (60 * t + j)) c)), pF m (fG (fun j => m.2 5 (60 * t + j)) c 10 (m.1 10))) := by
  refine ⟨x_fits_l (f := fun j => m.2 5 (60 * t + j)) ht hs hn hc h6 h7 hr 10 FU 0 0 (by omega) (by have := FU_big; omega), ?_⟩
  have q := m_fits_l (m := m) ht (c := c) (by omega) (m.1 10) 10 FU 0 0 (by omega) (by have := FU_big; omega)
  have e1 : pF m (fG (fun j => m.2 5 (60 * t + j)) c 0 (m.1 10)) = m := by
    have : fG (fun j => m.2 5 (60 * t + j)) c 0 (m.1 10) = m.1 10 := by
      funext j
      unfold fG
      rw [if_neg (by omega)]
    rw [this, pF_id]
  have e2 : fo (fun s C => if fb (fun j => m.2 5 (60 * t + j)) c s = 0 then C else C + 1) 0 10 0 = pcN (fSt (fun j => m.2 5 (60 * t + j)) c) := by
    have h := (fSt_spec (fun j => m.2 5 (60 * t + j)) c).2
    show fo _ 0 10 0 = fo (fun k t0 => if (fSt (fun j => m.2 5 (60 * t + j)) c).testBit k = true then t0 + 1 else t0) 0 10 0
    refine fo_congr 10 0 0 (fun k _ hk => ?_)
    funext C
    rw [h k (by omega)]
    by_cases e : fb (fun j => m.2 5 (60 * t + j)) c k = 0
    · rw [if_pos e, if_neg (by simp [e])]
    · rw [if_neg e, if_pos (by simp [e])]
  rw [e1, e2] at q
  exact q
theorem RR.fits (h : RR x m) (g : Nat → Int32) : RR x (pF m g) := ⟨h.1, h.2.1, h.2.2.1, h.2.2.2.1, h.2.2.2.2.1, h.2.2.2.2.2⟩
theorem s_fits (h : RR x m) (p q : Int32) : Sm (F_X10_fits p q x) (F_X11_fits p q m) := by
  have hT : ∀ t, t < 4 → TT (gsub x e_shX_shTr_1) m t := fun t ht => h.2.1.tt ht
  unfold F_X10_fits F_X11_fits
  rcases twos_both hT p q with ⟨v, hv, hv1, e1, e2⟩ | ⟨t, s, n, c, ht, hs, hn, hc, hc20, rfl, rfl, h6, h7, hr, e1, e2⟩
  · rw [e1, e2, Option.bind_some, Option.bind_some, if_neg (nI_ne0 (by omega) (by omega)), if_neg (nI_nle (by omega) (by omega))]
    exact Sm.fin h _ _
  · obtain ⟨e3, e4⟩ := fits_both (m := m) ht hs hn hc h6 h7 hr
    rw [e1, e2, Option.bind_some, Option.bind_some, if_pos zer_eq, if_pos (by decide), e3, e4, Option.bind_some, Option.bind_some, bc_eq (fSt_spec _ _).1, Option.bind_some]
    exact Sm.fin (h.fits _) _ _
/-- the k-th of those that fit -/
theorem mem_l {S : Nat} (hS : S < 1024) {g : Nat → Int32} (hg : ∀ k, k < 10 → g k = if S.testBit k = true then 1 else 0) (h : RR x m) : ∀ k n1 n2 y (l : Int32), y + k = 10 → k < n1 → k < n2 → ∃ r, f_X10_memberAt_4 n1 (nI S) l (nI y) = some r ∧ f_X11_fitsAt_41 n2 l (nI y) (pF m g) = (if r = (-1 : Int32) then some ((-1 : Int32), gI (pF m g) 0 2 6) else some (r, gI (pF m g) 0 2 0)) := by
  intro k
  induction k with
  | zero =>
    intro n1 n2 y l e h1 h2
    obtain ⟨n1, rfl⟩ := fu_pos h1
    obtain ⟨n2, rfl⟩ := fu_pos h2
    refine ⟨-1, ?_, ?_⟩
    · show b_X10_memberAt_4 _ (nI S) l (nI y) = _
      unfold b_X10_memberAt_4
      rw [if_pos (nI_gtL (by omega) (by omega))]
    · show b_X11_fitsAt_41 _ l (nI y) _ = _
      unfold b_X11_fitsAt_41
      rw [if_pos (nI_gtL (by omega) (by omega)), if_pos rfl]
      rfl
  | succ k ih =>
    intro n1 n2 y l e h1 h2
    obtain ⟨n1, rfl⟩ := fu_pos h1
    obtain ⟨n2, rfl⟩ := fu_pos h2
    show ∃ r, b_X10_memberAt_4 _ (nI S) l (nI y) = some r ∧ b_X11_fitsAt_41 _ l (nI y) (pF m g) = _
    unfold b_X10_memberAt_4 b_X11_fitsAt_41 f_X10_memberAt_27 f_X11_fitsAt_76
    rw [if_neg (nI_ngtL (by omega) (by omega)), if_neg (nI_ngtL (by omega) (by omega)), if_pos (gin_nI (by omega) (by omega)), nI_clamp (by omega), pF_10, hg y (by omega), nI_1]
    by_cases hb : S.testBit y = true
    · rw [if_pos hb, if_neg one_ne, if_neg (fun q => by rw [(bitC (by omega) (by omega)).mp q] at hb; cases hb)]
      by_cases e0 : l = 0
      · rw [if_pos e0, if_pos e0]
        refine ⟨nI y, rfl, ?_⟩
        rw [if_neg (nI_nm (by omega))]
        rfl
      · rw [if_neg e0, if_neg e0]
        exact ih n1 n2 (y + 1) _ (by omega) (by omega) (by omega)
    · rw [if_neg hb, if_pos zer_eq, if_pos ((bitC (by omega) (by omega)).mpr (by simpa using hb))]
      exact ih n1 n2 (y + 1) _ (by omega) (by omega) (by omega)
theorem fG_bits (f : Nat → Int64) (c : Nat) (g : Nat → Int32) : ∀ k, k < 10 → fG f c 10 g k = if (fSt f c).testBit k = true then 1 else 0 := by
  intro k hk
  unfold fG
  rw [if_pos hk, (fSt_spec f c).2 k hk]
  have h1 : fb f c k ≤ 1 := fF_01 f k 0 c (Nat.le_refl 1)
  by_cases e : fb f c k = 0
  · rw [if_neg (by simp [e]), e]; rfl
  · rw [if_pos (by simp [e]), show fb f c k = 1 by omega]; rfl
theorem s_fitsAt (h : RR x m) (p q r : Int32) : Sm (F_X10_fitsAt p q r x) (F_X11_fitsAt p q r m) := by
  have hT : ∀ t, t < 4 → TT (gsub x e_shX_shTr_1) m t := fun t ht => h.2.1.tt ht
  unfold F_X10_fitsAt F_X11_fitsAt f_X10_fitsAt_17 f_X11_fitsAt_14
  by_cases hr0 : (0 : Int32) ≤ r
  · rw [if_pos hr0, if_pos hr0]
    rcases twos_both hT p q with ⟨v, hv, hv1, e1, e2⟩ | ⟨t, s, n, c, ht, hs, hn, hc, hc20, rfl, rfl, h6, h7, hr, e1, e2⟩
    · rw [e1, e2, Option.bind_some, Option.bind_some, if_neg (nI_ne0 (by omega) (by omega)), if_neg (nI_nle (by omega) (by omega))]
      exact Sm.fin h _ _
    · obtain ⟨e3, e4⟩ := fits_both (m := m) ht hs hn hc h6 h7 hr
      obtain ⟨w, e5, e6⟩ := mem_l (fSt_spec _ _).1 (fG_bits (fun j => m.2 5 (60 * t + j)) c (m.1 10)) h 10 FU FU 0 r (by omega) (by have := FU_big; omega) (by have := FU_big; omega)
      rw [e1, e2, Option.bind_some, Option.bind_some, if_pos zer_eq, if_pos (by decide), e3, e4, Option.bind_some, Option.bind_some, show F_X10_memberAt _ r = _ from e5, Option.bind_some]
      rw [show f_X11_fitsAt_41 FU r (0 : Int32) (pF m (fG (fun j => m.2 5 (60 * t + j)) c 10 (m.1 10))) = _ from e6]
      simp only [F_X10_answer, F_X10_refuse, F_X10_answerOrRefuse, F_X10_grant, F_X10_deny, F_X11_gives, F_X11_refuse, F_X11_orNone, F_X11_is, Option.bind_some, ite01]
      by_cases e : w = (-1 : Int32)
      · rw [if_pos e, if_pos e]; exact Sm.fin (h.fits _) _ _
      · rw [if_neg e, if_neg e]; exact Sm.fin (h.fits _) _ _
  · rw [if_neg hr0, if_neg hr0, if_neg one_ne, if_neg (by decide)]
    exact Sm.fin h _ _
/-! which years part them best -/
def gY (y s : Nat) : Int32 := imin (99 : Int32) (nI s * nI y)
/-- how many of the set have the grey of s -/
def cA' (S y s i k t : Nat) : Nat := fo (fun o t => if S.testBit o = true ∧ gY y o = gY y s then t + 1 else t) i k t
theorem x_alike_in {S : Nat} (hS : S < 1024) {y s : Nat} (hs : s < 10) (k4 : Int32 → Int32 → Int32 → Int32 → Option Int32) (X2 : Nat) : ∀ k n1 o t, o + k = 10 → k < n1 → t ≤ o → X2 < 1000 → f_X10_mostAlike_16 k4 n1 (nI S) (nI y) (nI X2) (nI s) (nI t) (nI o) = k4 (nI S) (nI y) (nI (max X2 (cA' S y s o k t))) (nI (s + 1)) := by
  intro k
  induction k with
  | zero =>
    intro n1 o t e h1 ht hX
    obtain ⟨n1, rfl⟩ := fu_pos h1
    show b_X10_mostAlike_16 k4 _ (nI S) (nI y) (nI X2) (nI s) (nI t) (nI o) = k4 (nI S) (nI y) (nI (max X2 t)) (nI (s + 1))
    unfold b_X10_mostAlike_16
    rw [if_pos (nI_gtL (by omega) (by omega)), imax_nI (by omega) (by omega), nI_1]
  | succ k ih =>
    intro n1 o t e h1 ht hX
    obtain ⟨n1, rfl⟩ := fu_pos h1
    show b_X10_mostAlike_16 k4 _ (nI S) (nI y) (nI X2) (nI s) (nI t) (nI o) = k4 (nI S) (nI y) (nI (max X2 (cA' S y s (o + 1) k (if S.testBit o = true ∧ gY y o = gY y s then t + 1 else t)))) (nI (s + 1))
    unfold b_X10_mostAlike_16 f_X10_mostAlike_51
    rw [if_neg (nI_ngtL (by omega) (by omega)), x_greyGrown, Option.bind_some, x_greyGrown, Option.bind_some, Int32.zero_add, Int32.zero_add, nI_1, nI_1]
    by_cases hb : S.testBit o = true
    · rw [if_neg (fun q => by rw [(bitC (by omega) (by omega)).mp q] at hb; cases hb)]
      by_cases hg : gY y o = gY y s
      · rw [if_pos (show imin (99 : Int32) (nI o * nI y) = imin (99 : Int32) (nI s * nI y) from hg), if_pos ⟨hb, hg⟩, ih n1 (o + 1) (t + 1) (by omega) (by omega) (by omega) hX]
      · rw [if_neg (show ¬ imin (99 : Int32) (nI o * nI y) = imin (99 : Int32) (nI s * nI y) from hg), if_neg (fun q => hg q.2), ih n1 (o + 1) t (by omega) (by omega) (by omega) hX]
    · rw [if_pos ((bitC (by omega) (by omega)).mpr (by simpa using hb)), if_neg (fun q => hb q.1), ih n1 (o + 1) t (by omega) (by omega) (by omega) hX]
theorem cA'_le (S y s : Nat) : ∀ k o t, cA' S y s o k t ≤ t + k := by
  intro k
  induction k with
  | zero => intro o t; exact Nat.le_refl _
  | succ k ih =>
    intro o t
    show cA' S y s (o + 1) k (if S.testBit o = true ∧ gY y o = gY y s then t + 1 else t) ≤ t + (k + 1)
    have := ih (o + 1) (if S.testBit o = true ∧ gY y o = gY y s then t + 1 else t)
    split at this <;> rename_i q
    · rw [if_pos q]; omega
    · rw [if_neg q]; omega
def mxF (f : Nat → Nat) (i k t : Nat) : Nat := fo (fun s t => max t (f s)) i k t
theorem x_alike_l {S : Nat} (hS : S < 1024) {y : Nat} : ∀ k n1 s X2, s + k = 10 → k < n1 → X2 ≤ 10 → f_X10_mostAlike_4 n1 (nI S) (nI y) (nI X2) (nI s) = some (nI (mxF (fun s => cA' S y s 0 10 0) s k X2)) := by
  intro k
  induction k with
  | zero =>
    intro n1 s X2 e h1 hX
    obtain ⟨n1, rfl⟩ := fu_pos h1
    show b_X10_mostAlike_4 _ (nI S) (nI y) (nI X2) (nI s) = _
    unfold b_X10_mostAlike_4
    rw [if_pos (nI_gtL (by omega) (by omega))]
    rfl
  | succ k ih =>
    intro n1 s X2 e h1 hX
    obtain ⟨n1, rfl⟩ := fu_pos h1
    show b_X10_mostAlike_4 _ (nI S) (nI y) (nI X2) (nI s) = _
    unfold b_X10_mostAlike_4
    have hle := cA'_le S y s 10 0 0
    rw [if_neg (nI_ngtL (by omega) (by omega))]
    refine (x_alike_in hS (y := y) (s := s) (by omega) (f_X10_mostAlike_4 n1) X2 10 FU 0 0 (by omega) (by have := FU_big; omega) (by omega) (by omega)).trans ?_
    rw [ih n1 (s + 1) _ (by omega) (by omega) (by omega)]
    rfl
theorem m_alike_in {S : Nat} (hS : S < 1024) {g : Nat → Int32} (hg : ∀ k, k < 10 → g k = if S.testBit k = true then 1 else 0) {y s : Nat} (hs : s < 10) (k4 : Int32 → Int32 → Int32 → Option Int32) (X2 : Nat) : ∀ k n1 o t, o + k = 10 → k < n1 → t ≤ o → X2 < 1000 → f_X11_mostAlike_16 k4 (pF m g) n1 (nI y) (nI X2) (nI s) (nI t) (nI o) = k4 (nI y) (nI (max X2 (if S.testBit s = true then cA' S y s o k t else t))) (nI (s + 1)) := by
  intro k
  induction k with
  | zero =>
    intro n1 o t e h1 ht hX
    obtain ⟨n1, rfl⟩ := fu_pos h1
    show b_X11_mostAlike_16 k4 _ (pF m g) (nI y) (nI X2) (nI s) (nI t) (nI o) = k4 (nI y) (nI (max X2 (if S.testBit s = true then t else t))) (nI (s + 1))
    unfold b_X11_mostAlike_16
    rw [if_pos (nI_gtL (by omega) (by omega)), imax_nI (by omega) (by omega), nI_1, ite_self]
  | succ k ih =>
    intro n1 o t e h1 ht hX
    obtain ⟨n1, rfl⟩ := fu_pos h1
    show b_X11_mostAlike_16 k4 _ (pF m g) (nI y) (nI X2) (nI s) (nI t) (nI o) = k4 (nI y) (nI (max X2 (if S.testBit s = true then cA' S y s (o + 1) k (if S.testBit o = true ∧ gY y o = gY y s then t + 1 else t) else t))) (nI (s + 1))
    unfold b_X11_mostAlike_16 f_X11_mostAlike_62 f_X11_mostAlike_63 F_X11_greyOf
    rw [if_neg (nI_ngtL (by omega) (by omega)), if_pos (gin_nI (by omega) (by omega)), if_pos (gin_nI (by omega) (by omega)), nI_clamp (n := s) (by omega), nI_clamp (n := o) (by omega), pF_10, hg s hs, hg o (by omega), Option.bind_some, Option.bind_some, Int32.add_zero, nI_1, nI_1]
    by_cases hb : S.testBit s = true
    · rw [if_pos hb, if_neg one_ne, if_pos hb]
      by_cases hb2 : S.testBit o = true
      · rw [if_pos hb2, if_neg one_ne]
        by_cases hq : gY y o = gY y s
        · rw [if_pos (show imin (99 : Int32) (nI s * nI y) = imin (99 : Int32) (nI o * nI y) from hq.symm), if_pos ⟨hb2, hq⟩]
          have := ih n1 (o + 1) (t + 1) (by omega) (by omega) (by omega) hX
          rw [if_pos hb] at this
          exact this
        · rw [if_neg (show ¬ imin (99 : Int32) (nI s * nI y) = imin (99 : Int32) (nI o * nI y) from fun q => hq q.symm), if_neg (fun q => hq q.2)]
          have := ih n1 (o + 1) t (by omega) (by omega) (by omega) hX
          rw [if_pos hb] at this
          exact this
      · rw [if_neg hb2, if_pos zer_eq, if_neg (fun q => hb2 q.1)]
        have := ih n1 (o + 1) t (by omega) (by omega) (by omega) hX
        rw [if_pos hb] at this
        exact this
    · rw [if_neg hb, if_pos zer_eq, if_neg hb]
      have := ih n1 (o + 1) t (by omega) (by omega) (by omega) hX
      rw [if_neg hb] at this
      exact this
theorem m_alike_l {S : Nat} (hS : S < 1024) {g : Nat → Int32} (hg : ∀ k, k < 10 → g k = if S.testBit k = true then 1 else 0) {y : Nat} : ∀ k n1 s X2, s + k = 10 → k < n1 → X2 ≤ 10 → f_X11_mostAlike_4 (pF m g) n1 (nI y) (nI X2) (nI s) = some (nI (mxF (fun s => if S.testBit s = true then cA' S y s 0 10 0 else 0) s k X2)) := by
  intro k
  induction k with
  | zero =>
    intro n1 s X2 e h1 hX
    obtain ⟨n1, rfl⟩ := fu_pos h1
    show b_X11_mostAlike_4 _ (pF m g) (nI y) (nI X2) (nI s) = _
    unfold b_X11_mostAlike_4
    rw [if_pos (nI_gtL (by omega) (by omega))]
    rfl
  | succ k ih =>
    intro n1 s X2 e h1 hX
    obtain ⟨n1, rfl⟩ := fu_pos h1
    show b_X11_mostAlike_4 _ (pF m g) (nI y) (nI X2) (nI s) = _
    unfold b_X11_mostAlike_4
    have hle := cA'_le S y s 10 0 0
    rw [if_neg (nI_ngtL (by omega) (by omega))]
    refine (m_alike_in (m := m) hS hg (y := y) (s := s) (by omega) (f_X11_mostAlike_4 (pF m g) n1) X2 10 FU 0 0 (by omega) (by have := FU_big; omega) (by omega) (by omega)).trans ?_
    rw [ih n1 (s + 1) _ (by omega) (by omega) (by split <;> omega)]
    rfl
theorem mxF_ge (f : Nat → Nat) : ∀ k i t, t ≤ mxF f i k t ∧ ∀ s, i ≤ s → s < i + k → f s ≤ mxF f i k t := by
  intro k
  induction k with
  | zero => intro i t; exact ⟨Nat.le_refl _, fun s h1 h2 => absurd h2 (by omega)⟩
  | succ k ih =>
    intro i t
    have h := ih (i + 1) (max t (f i))
    refine ⟨Nat.le_trans (Nat.le_max_left t (f i)) h.1, fun s h1 h2 => ?_⟩
    by_cases e : s = i
    · rw [e]; exact Nat.le_trans (Nat.le_max_right t (f i)) h.1
    · exact h.2 s (by omega) (by omega)
theorem mxF_le {f : Nat → Nat} {B : Nat} : ∀ k i t, t ≤ B → (∀ s, i ≤ s → s < i + k → f s ≤ B) → mxF f i k t ≤ B := by
  intro k
  induction k with
  | zero => intro i t h _; exact h
  | succ k ih =>
    intro i t h hf
    exact ih (i + 1) _ (Nat.max_le.mpr ⟨h, hf i (by omega) (by omega)⟩) (fun s h1 h2 => hf s (by omega) (by omega))
theorem cA'_pos {S y s : Nat} : ∀ k o t, cA' S y s o k t = t ∨ ∃ p, o ≤ p ∧ p < o + k ∧ S.testBit p = true ∧ gY y p = gY y s := by
  intro k
  induction k with
  | zero => intro o t; exact Or.inl rfl
  | succ k ih =>
    intro o t
    by_cases q : S.testBit o = true ∧ gY y o = gY y s
    · exact Or.inr ⟨o, by omega, by omega, q.1, q.2⟩
    · have e : cA' S y s o (k + 1) t = cA' S y s (o + 1) k t := by
        show cA' S y s (o + 1) k (if S.testBit o = true ∧ gY y o = gY y s then t + 1 else t) = _
        rw [if_neg q]
      rcases ih (o + 1) t with h | ⟨p, h1, h2, h3⟩
      · exact Or.inl (e.trans h)
      · exact Or.inr ⟨p, by omega, by omega, h3⟩
theorem alike_same (S y : Nat) : mxF (fun s => cA' S y s 0 10 0) 0 10 0 = mxF (fun s => if S.testBit s = true then cA' S y s 0 10 0 else 0) 0 10 0 := by
  apply Nat.le_antisymm
  · refine mxF_le 10 0 0 (Nat.zero_le _) (fun s h1 h2 => ?_)
    rcases cA'_pos (S := S) (y := y) (s := s) 10 0 0 with h | ⟨p, h3, h4, h5, h6⟩
    · show cA' S y s 0 10 0 ≤ _
      rw [h]; exact Nat.zero_le _
    · have e : cA' S y s 0 10 0 = cA' S y p 0 10 0 := by
        unfold cA'
        rw [h6]
      have h7 := (mxF_ge (fun s => if S.testBit s = true then cA' S y s 0 10 0 else 0) 10 0 0).2 p (by omega) (by omega)
      rw [if_pos h5] at h7
      show cA' S y s 0 10 0 ≤ _
      rw [e]
      exact h7
  · refine mxF_le 10 0 0 (Nat.zero_le _) (fun s h1 h2 => ?_)
    split
    · exact (mxF_ge (fun s => cA' S y s 0 10 0) 10 0 0).2 s (by omega) (by omega)
    · exact Nat.zero_le _
def sAl (S y : Nat) : Nat := mxF (fun s => cA' S y s 0 10 0) 0 10 0
theorem x_alike {S : Nat} (hS : S < 1024) (y : Nat) : F_X10_mostAlike (nI S) (nI y) = some (nI (sAl S y)) := x_alike_l hS 10 FU 0 0 (by omega) (by have := FU_big; omega) (by omega)
theorem m_alike {S : Nat} (hS : S < 1024) {g : Nat → Int32} (hg : ∀ k, k < 10 → g k = if S.testBit k = true then 1 else 0) (y : Nat) : F_X11_mostAlike (pF m g) (nI y) = some (nI (sAl S y)) := by
  have h := m_alike_l (m := m) hS hg (y := y) 10 FU 0 0 (by omega) (by have := FU_big; omega) (by omega)
  rw [← alike_same] at h
  exact h
theorem ask_l {S : Nat} (hS : S < 1024) {g : Nat → Int32} (hg : ∀ k, k < 10 → g k = if S.testBit k = true then 1 else 0) (h : RR x m) : ∀ k n1 n2 y b, y + k = 21 → k < n1 → k < n2 → Sm (f_X10_ask_53 n1 (nI S) (nI b) (nI y) x) (f_X11_ask_40 n2 (nI b) (nI y) (pF m g)) := by
  intro k
  induction k with
  | zero =>
    intro n1 n2 y b e h1 h2
    obtain ⟨n1, rfl⟩ := fu_pos h1
    obtain ⟨n2, rfl⟩ := fu_pos h2
    show Sm (b_X10_ask_53 _ (nI S) (nI b) (nI y) x) (b_X11_ask_40 _ (nI b) (nI y) (pF m g))
    unfold b_X10_ask_53 b_X11_ask_40
    rw [if_pos (nI_gtL (by omega) (by omega)), if_pos (nI_gtL (by omega) (by omega))]
    exact Sm.fin (h.fits g) _ _
  | succ k ih =>
    intro n1 n2 y b e h1 h2
    obtain ⟨n1, rfl⟩ := fu_pos h1
    obtain ⟨n2, rfl⟩ := fu_pos h2
    show Sm (b_X10_ask_53 _ (nI S) (nI b) (nI y) x) (b_X11_ask_40 _ (nI b) (nI y) (pF m g))
    unfold b_X10_ask_53 b_X11_ask_40 f_X10_ask_81 f_X11_ask_66
    rw [if_neg (nI_ngtL (by omega) (by omega)), if_neg (nI_ngtL (by omega) (by omega)), x_alike hS, x_alike hS, m_alike hS hg, m_alike hS hg, Option.bind_some, Option.bind_some, Option.bind_some, Option.bind_some, nI_1]
    by_cases q : nI (sAl S b) ≤ nI (sAl S y)
    · rw [if_pos q, if_pos q]
      exact ih n1 n2 (y + 1) b (by omega) (by omega) (by omega)
    · rw [if_neg q, if_neg q]
      exact ih n1 n2 (y + 1) y (by omega) (by omega) (by omega)
theorem s_ask (h : RR x m) (p q : Int32) : Sm (F_X10_ask p q x) (F_X11_ask p q m) := by
  have hT : ∀ t, t < 4 → TT (gsub x e_shX_shTr_1) m t := fun t ht => h.2.1.tt ht
  unfold F_X10_ask F_X11_ask
  rcases twos_both hT p q with ⟨v, hv, hv1, e1, e2⟩ | ⟨t, s, n, c, ht, hs, hn, hc, hc20, rfl, rfl, h6, h7, hr, e1, e2⟩
  · rw [e1, e2, Option.bind_some, Option.bind_some, if_neg (nI_ne0 (by omega) (by omega)), if_neg (nI_nle (by omega) (by omega))]
    exact Sm.fin h _ _
  · obtain ⟨e3, e4⟩ := fits_both (m := m) ht hs hn hc h6 h7 hr
    have hS := (fSt_spec (fun j => m.2 5 (60 * t + j)) c).1
    rw [e1, e2, Option.bind_some, Option.bind_some, if_pos zer_eq, if_pos (by decide), e3, e4, Option.bind_some, Option.bind_some, bc_eq hS, Option.bind_some]
    dsimp only
    by_cases hl : (2 : Int32) ≤ nI (pcN (fSt (fun j => m.2 5 (60 * t + j)) c))
    · rw [if_pos hl, if_pos hl]
      exact ask_l hS (fG_bits (fun j => m.2 5 (60 * t + j)) c (m.1 10)) h 19 FU FU 2 1 (by omega) (by have := FU_big; omega) (by have := FU_big; omega)
    · rw [if_neg hl, if_neg hl]
      exact Sm.fin (h.fits _) _ _
end
