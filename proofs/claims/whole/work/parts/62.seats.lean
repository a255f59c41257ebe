/-! Who should sit where. -/
theorem pigeon : ∀ (m n : Nat) (f : Nat → Nat), (∀ i, i < n → f i < m) → (∀ i j, i < n → j < n → f i = f j → i = j) → n ≤ m := by
  intro m
  induction m with
  | zero =>
    intro n f h _
    apply Nat.le_of_not_lt
    intro hn
    exact absurd (h 0 hn) (by omega)
  | succ m ih =>
    intro n f h hj
    cases n with
    | zero => omega
    | succ n =>
      by_cases e : f n = m
      · have := ih n f (fun i hi => by
          have h1 := h i (by omega)
          have h2 : f i ≠ m := fun q => by
            have := hj i n (by omega) (by omega) (q.trans e.symm)
            omega
          omega) (fun i j hi hj2 q => hj i j (by omega) (by omega) q)
        omega
      · have hn := h n (by omega)
        have := ih n (fun i => if f i = m then f n else f i) (fun i hi => by
          have h1 := h i (by omega)
          split <;> omega) (fun i j hi hj2 q => by
          by_cases q1 : f i = m
          · by_cases q2 : f j = m
            · exact hj i j (by omega) (by omega) (q1.trans q2.symm)
            · rw [if_pos q1, if_neg q2] at q
              have := hj n j (by omega) (by omega) q
              omega
          · by_cases q2 : f j = m
            · rw [if_neg q1, if_pos q2] at q
              have := hj i n (by omega) (by omega) q
              omega
            · rw [if_neg q1, if_neg q2] at q
              exact hj i j (by omega) (by omega) q)
        omega
theorem Bi.room {a : Nat → Int32} {nc nr nk nl : Nat} (hi : Bi a nc nr nk nl) : nk ≤ nc := by
  have hn := hi.cnt
  refine pigeon nc nk (fun c => (a (27 + 7 * c)).toNatClampNeg) (fun i h => ?_) (fun i j h1 h2 q => ?_)
  · obtain ⟨s, hs, es⟩ := hi.seat h
    show (a (27 + 7 * i)).toNatClampNeg < nc
    rw [es, nI_clamp (by omega)]
    exact hs
  · obtain ⟨s, hs, es⟩ := hi.seat h1
    obtain ⟨t, ht, et⟩ := hi.seat h2
    rw [es, et, nI_clamp (by omega), nI_clamp (by omega)] at q
    exact hi.apart h1 h2 (by rw [es, et, q])
theorem free_of {n T : Nat} (hn : n ≤ 7) (hT : T < 2 ^ n) (h : pcN T < n) : ∃ s, s < n ∧ T.testBit s = false := by
  have h2 : 2 ^ n ≤ 2 ^ 7 := Nat.pow_le_pow_right (by decide) hn
  have key : ∀ i : Fin 8, ∀ j : Fin 128, j.val < 2 ^ i.val → pcN j.val < i.val → ∃ s : Fin 8, s.val < i.val ∧ j.val.testBit s.val = false := by decide +kernel
  obtain ⟨s, h3, h4⟩ := key ⟨n, by omega⟩ ⟨T, by omega⟩ hT h
  exact ⟨s.val, h3, h4⟩
theorem pcN_add {T s : Nat} (h : T.testBit s = false) (hs : s < 10) : pcN (T ||| 2 ^ s) = pcN T + 1 := wN_add (fun _ => 1) h hs
/-- grey of a clerk in a corner, as a number -/
def gN (a : Nat → Int32) (y : Nat) (c s : Nat) : Nat := (sGa a c s (nI y)).toNatClampNeg
/-- the most grey of the last n clerks, when the corners of s are taken -/
def Dn (a : Nat → Int32) (y nc nk : Nat) : Nat → Nat → Nat
  | 0, _ => 0
  | n + 1, s => fo (fun c t => if s.testBit c = true then t else max t (gN a y (nk - (n + 1)) c + Dn a y nc nk n (s ||| 2 ^ c))) 0 nc 0
def DD (a : Nat → Int32) (y nc nk s : Nat) : Nat := Dn a y nc nk (nk - pcN s) s
section
variable {w m x : GW} {a : Nat → Int32} {nm : Nat → Int64} {nc nr nk nl y : Nat}
theorem gN_eq (hi : Bi a nc nr nk nl) {c s : Nat} (hc : c < nk) (hs : s < nc) (hy : y ≤ 1000) : sGa a c s (nI y) = nI (gN a y c s) ∧ gN a y c s ≤ 99 := by
  obtain ⟨v, hv, ev⟩ := sGa_small hi hc hs hy
  unfold gN
  rw [ev, nI_clamp (by omega)]
  exact ⟨rfl, hv⟩
theorem Dn_le (hi : Bi a nc nr nk nl) (hy : y ≤ 1000) : ∀ n s, n ≤ nk → Dn a y nc nk n s ≤ 99 * n := by
  intro n
  induction n with
  | zero => intro s _; exact Nat.le_refl 0
  | succ n ih =>
    intro s hn
    refine fo_ind _ (fun _ t => t ≤ 99 * (n + 1)) nc 0 0 (Nat.zero_le _) (fun c t _ h2 h => ?_)
    show (if s.testBit c = true then t else max t (gN a y (nk - (n + 1)) c + Dn a y nc nk n (s ||| 2 ^ c))) ≤ 99 * (n + 1)
    split
    · exact h
    · have h3 := (gN_eq (y := y) hi (c := nk - (n + 1)) (s := c) (by omega) (by omega) hy).2
      have h4 := ih (s ||| 2 ^ c) (by omega)
      exact Nat.max_le.mpr ⟨h, by omega⟩
theorem DD_le (hi : Bi a nc nr nk nl) (hy : y ≤ 1000) (s : Nat) : DD a y nc nk s ≤ 594 := by
  have h := Dn_le (y := y) hi hy (nk - pcN s) s (by omega)
  have := hi.cnt
  unfold DD
  omega
/-- what a corner gives -/
def GG (a : Nat → Int32) (y nc nk T s : Nat) : Nat := gN a y (pcN T) s + DD a y nc nk (T ||| 2 ^ s)
theorem GG_le (hi : Bi a nc nr nk nl) (hy : y ≤ 1000) {T s : Nat} (hT : pcN T < nk) (hs : s < nc) : GG a y nc nk T s ≤ 693 := by
  have h1 := (gN_eq (y := y) hi hT hs hy).2
  have h2 := DD_le (y := y) hi hy (T ||| 2 ^ s)
  unfold GG
  omega
/-- the fold over the corners so far -/
def FF (a : Nat → Int32) (y nc nk T i k t : Nat) : Nat := fo (fun c t => if T.testBit c = true then t else max t (GG a y nc nk T c)) i k t
theorem DD_step (hi : Bi a nc nr nk nl) {T : Nat} (hT : pcN T < nk) : DD a y nc nk T = FF a y nc nk T 0 nc 0 := by
  have hn := hi.cnt
  unfold DD FF
  rw [show nk - pcN T = nk - pcN T - 1 + 1 by omega]
  refine fo_congr nc 0 0 (fun c _ hc => ?_)
  funext t
  by_cases hb : T.testBit c = true
  · rw [if_pos hb, if_pos hb]
  · rw [if_neg hb, if_neg hb]
    have e : pcN (T ||| 2 ^ c) = pcN T + 1 := pcN_add (by simpa using hb) (by omega)
    unfold GG DD
    rw [e, show nk - (nk - pcN T - 1 + 1) = pcN T by omega, show nk - (pcN T + 1) = nk - pcN T - 1 by omega]
/-! the class -/
theorem x_greyW (hb : Bq (gsub w e_shS_shB_2) a nm nc nr nk nl) (hi : Bi a nc nr nk nl) (hy : y ≤ 1000) {T s : Nat} (hT : T < 2 ^ nc) (hp : pcN T < nk) (hs : s < nc) (hf : T.testBit s = false → w.1 1 (T ||| 2 ^ s) = nI (DD a y nc nk (T ||| 2 ^ s))) : F_X7_greyWith w (nI y) (nI (pcN T)) (nI s) (nI T) = some (if T.testBit s = true then (-1 : Int32) else nI (GG a y nc nk T s)) := by
  have hn := hi.cnt
  have h128 : 2 ^ nc ≤ 128 := by
    have h2 : 2 ^ nc ≤ 2 ^ 7 := Nat.pow_le_pow_right (by decide) (by omega)
    exact h2
  have hor := or_small hT hs
  unfold F_X7_greyWith
  rw [x_hasCorner hb hi, if_pos (gin_nI hs (by omega)), Option.bind_some, if_neg one_ne]
  by_cases hb2 : T.testBit s = true
  · rw [if_neg (fun q => by rw [(bitC (by omega) (by omega)).mp q] at hb2; cases hb2), if_pos hb2]
  · have hb3 : T.testBit s = false := by simpa using hb2
    rw [if_pos ((bitC (by omega) (by omega)).mpr hb3), if_neg hb2, x_seated hb hi hp hs, Option.bind_some, one_shl (by omega), nI_or, if_pos (gin_nI (by omega) (by omega)), nI_clamp (by omega), hf hb3, (gN_eq hi hp hs hy).1, nI_add]
    rfl
theorem x_first_l (hb : Bq (gsub w e_shS_shB_2) a nm nc nr nk nl) (hi : Bi a nc nr nk nl) (hy : y ≤ 1000) {T : Nat} (hT : T < 2 ^ nc) (hp : pcN T < nk) (hf : ∀ s, s < nc → T.testBit s = false → w.1 1 (T ||| 2 ^ s) = nI (DD a y nc nk (T ||| 2 ^ s))) : ∀ k n i (b t : Int32) (v : Nat), i + k = nc → k < n → ((b = (-1 : Int32) ∧ t = (-1 : Int32) ∧ v = 0 ∧ ∀ s, s < i → T.testBit s = true) ∨ (∃ c, c < i ∧ b = nI c ∧ t = nI v ∧ T.testBit c = false ∧ GG a y nc nk T c = v ∧ (∀ s, s < i → T.testBit s = false → GG a y nc nk T s ≤ v) ∧ ∀ s, s < c → T.testBit s = false → GG a y nc nk T s ≠ v)) → ∃ c, c < nc ∧ f_X7_firstBest_9 w n (nI y) (nI (pcN T)) (nI T) b t (nI i) = some (nI c) ∧ T.testBit c = false ∧ GG a y nc nk T c = FF a y nc nk T i k v ∧ ∀ s, s < c → T.testBit s = false → GG a y nc nk T s ≠ FF a y nc nk T i k v := by
  have hn := hi.cnt
  intro k
  induction k with
  | zero =>
    intro n i b t v e h1 hR
    obtain ⟨n, rfl⟩ := fu_pos h1
    rcases hR with ⟨_, _, _, h2⟩ | ⟨c, hc, rfl, rfl, h3, h4, h5, h6⟩
    · obtain ⟨s, hs, hs2⟩ := free_of (by omega) hT (show pcN T < nc from Nat.lt_of_lt_of_le hp hi.room)
      rw [h2 s (by omega)] at hs2
      cases hs2
    · refine ⟨c, by omega, ?_, h3, h4, h6⟩
      show b_X7_firstBest_9 _ w (nI y) (nI (pcN T)) (nI T) (nI c) (nI v) (nI i) = _
      unfold b_X7_firstBest_9
      rw [show w.1 2 3 = nI nc from hb.n0, if_pos (nI_le (by omega) (by omega))]
  | succ k ih =>
    intro n i b t v e h1 hR
    obtain ⟨n, rfl⟩ := fu_pos h1
    have hG := GG_le (y := y) hi hy (T := T) (s := i) hp (by omega)
    show ∃ c, c < nc ∧ b_X7_firstBest_9 _ w (nI y) (nI (pcN T)) (nI T) b t (nI i) = some (nI c) ∧ T.testBit c = false ∧ GG a y nc nk T c = FF a y nc nk T (i + 1) k (if T.testBit i = true then v else max v (GG a y nc nk T i)) ∧ ∀ s, s < c → T.testBit s = false → GG a y nc nk T s ≠ FF a y nc nk T (i + 1) k (if T.testBit i = true then v else max v (GG a y nc nk T i))
    unfold b_X7_firstBest_9 f_X7_firstBest_46
    rw [show w.1 2 3 = nI nc from hb.n0, if_neg (nI_ge (by omega) (by omega)), x_greyW hb hi hy hT hp (s := i) (by omega) (hf i (by omega)), Option.bind_some, nI_1]
    by_cases hbi : T.testBit i = true
    · rw [if_pos hbi, if_pos hbi]
      have hle : (-1 : Int32) ≤ t := by
        rcases hR with ⟨_, rfl, _, _⟩ | ⟨c, hc, _, rfl, h3, h4, _⟩
        · exact Int32.le_refl _
        · have hv : v ≤ 693 := by rw [← h4]; exact GG_le hi hy hp (by omega)
          rw [Int32.le_iff_toInt_le, nI_toInt (by omega)]
          have : (-1 : Int32).toInt = -1 := by decide
          omega
      rw [if_pos hle]
      refine ih n (i + 1) b t v (by omega) (by omega) ?_
      rcases hR with ⟨r1, r2, r3, r4⟩ | ⟨c, hc, r1, r2, h3, h4, h5, h6⟩
      · exact Or.inl ⟨r1, r2, r3, fun s hs => by
          by_cases e2 : s = i
          · rw [e2]; exact hbi
          · exact r4 s (by omega)⟩
      · exact Or.inr ⟨c, by omega, r1, r2, h3, h4, fun s hs hs2 => by
          by_cases e2 : s = i
          · rw [e2, hbi] at hs2; cases hs2
          · exact h5 s (by omega) hs2, h6⟩
    · rw [if_neg hbi, if_neg hbi]
      have hbf : T.testBit i = false := by simpa using hbi
      rcases hR with ⟨r1, r2, r3, r4⟩ | ⟨c, hc, r1, r2, h3, h4, h5, h6⟩
      · have hlt : ¬ nI (GG a y nc nk T i) ≤ t := by
          rw [r2, Int32.le_iff_toInt_le, nI_toInt (by omega)]
          have : (-1 : Int32).toInt = -1 := by decide
          omega
        rw [if_neg hlt, r3, Nat.zero_max]
        refine ih n (i + 1) (nI i) _ (GG a y nc nk T i) (by omega) (by omega) (Or.inr ⟨i, by omega, rfl, rfl, hbf, rfl, fun s hs hs2 => ?_, fun s hs hs2 => ?_⟩)
        · by_cases e2 : s = i
          · rw [e2]; exact Nat.le_refl _
          · rw [r4 s (by omega)] at hs2; cases hs2
        · rw [r4 s hs] at hs2; cases hs2
      · have hv : v ≤ 693 := by rw [← h4]; exact GG_le hi hy hp (by omega)
        rw [r2]
        by_cases hle : GG a y nc nk T i ≤ v
        · rw [if_pos (nI_le hle (by omega)), Nat.max_eq_left hle]
          exact ih n (i + 1) b (nI v) v (by omega) (by omega) (Or.inr ⟨c, by omega, r1, rfl, h3, h4, fun s hs hs2 => by
            by_cases e2 : s = i
            · rw [e2]; exact hle
            · exact h5 s (by omega) hs2, h6⟩)
        · rw [if_neg (nI_ge (Nat.lt_of_not_le hle) (by omega)), Nat.max_eq_right (by omega)]
          exact ih n (i + 1) (nI i) _ (GG a y nc nk T i) (by omega) (by omega) (Or.inr ⟨i, by omega, rfl, rfl, hbf, rfl, fun s hs hs2 => by
            by_cases e2 : s = i
            · rw [e2]; exact Nat.le_refl _
            · have := h5 s (by omega) hs2; omega, fun s hs hs2 => by
            have := h5 s hs hs2; omega⟩)
theorem x_first (hb : Bq (gsub w e_shS_shB_2) a nm nc nr nk nl) (hi : Bi a nc nr nk nl) (hy : y ≤ 1000) {T : Nat} (hT : T < 2 ^ nc) (hp : pcN T < nk) (hf : ∀ s, s < nc → T.testBit s = false → w.1 1 (T ||| 2 ^ s) = nI (DD a y nc nk (T ||| 2 ^ s))) : ∃ c, c < nc ∧ F_X7_firstBest w (nI y) (nI (pcN T)) (nI T) = some (nI c) ∧ T.testBit c = false ∧ GG a y nc nk T c = DD a y nc nk T ∧ ∀ s, s < c → T.testBit s = false → GG a y nc nk T s ≠ DD a y nc nk T := by
  rw [DD_step hi hp]
  exact x_first_l hb hi hy hT hp hf nc FU 0 (-1) (-1) 0 (by omega) (by have := hi.cnt; have := FU_big; omega) (Or.inl ⟨rfl, rfl, rfl, fun s hs => absurd hs (by omega)⟩)
theorem or_gt {T s : Nat} (h : T.testBit s = false) : T < T ||| 2 ^ s := by
  have h1 : T ≤ T ||| 2 ^ s := Nat.left_le_or
  have h2 : T ≠ T ||| 2 ^ s := fun e => by
    have := or_bit T s s
    rw [← e, h] at this
    simp at this
  omega
theorem x_fill_l (hb : Bq (gsub w e_shS_shB_2) a nm nc nr nk nl) (hi : Bi a nc nr nk nl) (hy : y ≤ 1000) : ∀ k n (f : Nat → Int32), k ≤ 2 ^ nc → k < n → (∀ s, k ≤ s → s < 2 ^ nc → f s = nI (DD a y nc nk s)) → ∃ f', (∀ s, s < 2 ^ nc → f' s = nI (DD a y nc nk s)) ∧ f_X7_fill_9 n (nI y) (nI k - 1) (pA w f) = some (pA w f') := by
  have hn := hi.cnt
  have h128 : 2 ^ nc ≤ 128 := by
    have h2 : 2 ^ nc ≤ 2 ^ 7 := Nat.pow_le_pow_right (by decide) (by omega)
    exact h2
  intro k
  induction k with
  | zero =>
    intro n f hk h1 hf
    obtain ⟨n, rfl⟩ := fu_pos h1
    refine ⟨f, fun s hs => hf s (by omega) hs, ?_⟩
    show b_X7_fill_9 _ (nI y) (nI 0 - 1) _ = _
    unfold b_X7_fill_9
    rw [if_pos (by decide)]
  | succ k ih =>
    intro n f hk h1 hf
    obtain ⟨n, rfl⟩ := fu_pos h1
    have em : nI k + (-1 : Int32) = nI k - 1 := (Int32.sub_eq_add_neg _ _).symm
    have hb2 : Bq (gsub (pA w (upd f k 0)) e_shS_shB_2) a nm nc nr nk nl := hb
    show ∃ f', _ ∧ b_X7_fill_9 _ (nI y) (nI (k + 1) - 1) _ = _
    rw [nI_pred]
    unfold b_X7_fill_9 f_X7_fill_63
    rw [if_neg (nI_pos (by omega)), if_pos (gin_nI (by omega) (by omega)), bc_eq (by omega), Option.bind_some, nI_clamp (by omega), show (pA w f).1 2 5 = nI nk from hb.n2, em, gI_pA, pA_pA, pA_1]
    by_cases hp : pcN k < nk
    · have hff : ∀ s, s < nc → k.testBit s = false → (pA w (upd f k 0)).1 1 (k ||| 2 ^ s) = nI (DD a y nc nk (k ||| 2 ^ s)) := fun s hs hs2 => by
        have hgt := or_gt hs2
        rw [pA_1, pk_un (by omega)]
        exact hf _ (by omega) (or_small (by omega) hs)
      obtain ⟨c, hc, e1, e2, e3, e4⟩ := x_first hb2 hi hy (T := k) (by omega) hp hff
      rw [if_neg (nI_ge hp (by omega)), e1, Option.bind_some, x_greyW hb2 hi hy (T := k) (by omega) hp hc (hff c hc), Option.bind_some, if_neg (by rw [e2]; decide), e3, gI_pA, pA_pA, pA_1, upd_upd]
      exact ih n (upd f k (nI (DD a y nc nk k))) (by omega) (by omega) (fun s hs hs2 => by
        by_cases e : s = k
        · rw [e, pk_us]
        · rw [pk_un e]; exact hf s (by omega) hs2)
    · have hpk := pcN_small k
      rw [if_pos (nI_le (Nat.le_of_not_lt hp) (by omega))]
      exact ih n (upd f k 0) (by omega) (by omega) (fun s hs hs2 => by
        by_cases e : s = k
        · rw [e, pk_us]
          unfold DD
          rw [show nk - pcN k = 0 by omega]
          rfl
        · rw [pk_un e]; exact hf s (by omega) hs2)
theorem x_fill (hb : Bq (gsub w e_shS_shB_2) a nm nc nr nk nl) (hi : Bi a nc nr nk nl) (hy : y ≤ 1000) : ∃ f', (∀ s, s < 2 ^ nc → f' s = nI (DD a y nc nk s)) ∧ F_X7_fill (nI y) w = some (pA w f') := by
  have hn := hi.cnt
  have h128 : 2 ^ nc ≤ 128 := by
    have h2 : 2 ^ nc ≤ 2 ^ 7 := Nat.pow_le_pow_right (by decide) (by omega)
    exact h2
  obtain ⟨f', h1, h2⟩ := x_fill_l hb hi hy (2 ^ nc) FU (w.1 1) (Nat.le_refl _) (by have := FU_big; omega) (fun s h3 h4 => absurd h4 (by omega))
  rw [pA_id] at h2
  refine ⟨f', h1, ?_⟩
  unfold F_X7_fill
  rw [show w.1 2 3 = nI nc from hb.n0, one_shl (by omega)]
  exact h2
/-! the reference -/
def pK (m : GW) (g : Nat → Int32) : GW := (fun i => if i = 9 then g else m.1 i, m.2)
theorem gI_pK (m : GW) (g : Nat → Int32) (k : Nat) (v : Int32) : gI (pK m g) 9 k v = pK m (upd g k v) := by
  refine Prod.ext (funext fun i => funext fun j => ?_) rfl
  show (if i = 9 ∧ j = k then v else (if i = 9 then g else m.1 i) j) = (if i = 9 then upd g k v else m.1 i) j
  by_cases h : i = 9
  · rw [if_pos h, if_pos h]
    show _ = (if j = k then v else g j)
    by_cases h2 : j = k
    · rw [if_pos ⟨h, h2⟩, if_pos h2]
    · rw [if_neg (fun q => h2 q.2), if_neg h2]
  · rw [if_neg (fun q => h q.1), if_neg h, if_neg h]
theorem pK_id (m : GW) : pK m (m.1 9) = m := by
  refine Prod.ext (funext fun i => ?_) rfl
  show (if i = 9 then m.1 9 else m.1 i) = m.1 i
  by_cases h : i = 9
  · rw [if_pos h, h]
  · rw [if_neg h]
theorem pK_9 (m : GW) (g : Nat → Int32) : (pK m g).1 9 = g := rfl
theorem m_lays_in (hi : Bi (m.1 1) nc nr nk nl) (hy : y ≤ 1000) {T : Nat} (hT : T < 2 ^ nc) (hp : pcN T < nk) (k18 : Int32 → Int32 → Int32 → GW → Option GW) {g : Nat → Int32} (hg : ∀ s, s < nc → T.testBit s = false → g (T ||| 2 ^ s) = nI (DD (m.1 1) y nc nk (T ||| 2 ^ s))) : ∀ k n i (t : Int32) (v : Nat), i + k = nc → k < n → ((t = (-1 : Int32) ∧ v = 0 ∧ ∀ s, s < i → T.testBit s = true) ∨ (t = nI v ∧ v ≤ 693 ∧ ∃ s, s < i ∧ T.testBit s = false)) → f_X11_laysSeats_48 k18 n (nI y) (nI nk) (nI T) (nI (pcN T)) (nI i) (pK m (upd g T t)) = k18 (nI y) (nI nk) (nI T + -1) (pK m (upd g T (nI (FF (m.1 1) y nc nk T i k v)))) := by
  have hn := hi.cnt
  have h128 : 2 ^ nc ≤ 128 := by
    have h2 : 2 ^ nc ≤ 2 ^ 7 := Nat.pow_le_pow_right (by decide) (by omega)
    exact h2
  intro k
  induction k with
  | zero =>
    intro n i t v e h1 hR
    obtain ⟨n, rfl⟩ := fu_pos h1
    show b_X11_laysSeats_48 k18 _ (nI y) (nI nk) (nI T) (nI (pcN T)) (nI i) _ = _
    unfold b_X11_laysSeats_48 f_X11_laysSeats_131
    rw [show (pK m (upd g T t)).1 1 0 = nI nc from hi.n0, if_pos (nI_le (by omega) (by omega))]
    rcases hR with ⟨_, _, h2⟩ | ⟨rfl, _⟩
    · obtain ⟨s, hs, hs2⟩ := free_of (by omega) hT (show pcN T < nc from Nat.lt_of_lt_of_le hp hi.room)
      rw [h2 s (by omega)] at hs2
      cases hs2
    · rfl
  | succ k ih =>
    intro n i t v e h1 hR
    obtain ⟨n, rfl⟩ := fu_pos h1
    have hG := GG_le (y := y) hi hy (T := T) (s := i) hp (by omega)
    have hor := or_small hT (show i < nc by omega)
    show b_X11_laysSeats_48 k18 _ (nI y) (nI nk) (nI T) (nI (pcN T)) (nI i) _ = k18 (nI y) (nI nk) (nI T + -1) (pK m (upd g T (nI (FF (m.1 1) y nc nk T (i + 1) k (if T.testBit i = true then v else max v (GG (m.1 1) y nc nk T i))))))
    unfold b_X11_laysSeats_48 f_X11_laysSeats_90 f_X11_laysSeats_125
    rw [show (pK m (upd g T t)).1 1 0 = nI nc from hi.n0, if_neg (nI_ge (by omega) (by omega)), if_neg (nI_ge hp (by omega)), m_isIn (by omega) (by omega), Option.bind_some, one_shl (by omega), nI_or, if_pos (gin_nI (by omega) (by omega)), if_pos (gin_nI (by omega) (by omega)), if_pos (gin_nI (by omega) (by omega)), nI_clamp (n := T ||| 2 ^ i) (by omega), nI_clamp (n := T) (by omega), nI_1]
    by_cases hbi : T.testBit i = true
    · rw [if_pos hbi, if_neg one_ne, if_pos rfl, if_pos hbi]
      refine ih n (i + 1) t v (by omega) (by omega) ?_
      rcases hR with ⟨r1, r2, r3⟩ | ⟨r1, r2, s, hs, hs2⟩
      · exact Or.inl ⟨r1, r2, fun s hs => by
          by_cases e2 : s = i
          · rw [e2]; exact hbi
          · exact r3 s (by omega)⟩
      · exact Or.inr ⟨r1, r2, s, by omega, hs2⟩
    · have hbf : T.testBit i = false := by simpa using hbi
      have hgt := or_gt hbf
      have hd := DD_le (y := y) hi hy (T ||| 2 ^ i)
      rw [if_neg hbi, if_pos zer_eq, if_neg hbi, pK_9, pk_un (by omega), hg i (by omega) hbf, if_neg (nI_nm (by omega)), m_greyAt (m := pK m (upd g T t)) hi hp (by omega), Option.bind_some, pk_us, gI_pK, upd_upd]
      rw [show sGa ((pK m (upd g T t)).1 1) (pcN T) i (nI y) = nI (gN (m.1 1) y (pcN T) i) from (gN_eq hi hp (by omega) hy).1, nI_add]
      have eG : gN (m.1 1) y (pcN T) i + DD (m.1 1) y nc nk (T ||| 2 ^ i) = GG (m.1 1) y nc nk T i := rfl
      rw [eG]
      rcases hR with ⟨r1, r2, r3⟩ | ⟨r1, r2, s, hs, hs2⟩
      · have em : imax t (nI (GG (m.1 1) y nc nk T i)) = nI (GG (m.1 1) y nc nk T i) := by
          unfold imax
          rw [if_pos ?_]
          rw [r1, Int32.lt_iff_toInt_lt, nI_toInt (by omega)]
          have : (-1 : Int32).toInt = -1 := by decide
          omega
        rw [em, r2, Nat.zero_max]
        exact ih n (i + 1) _ _ (by omega) (by omega) (Or.inr ⟨rfl, hG, i, by omega, hbf⟩)
      · rw [r1, imax_nI (by omega) (by omega)]
        exact ih n (i + 1) _ _ (by omega) (by omega) (Or.inr ⟨rfl, by omega, s, by omega, hs2⟩)
theorem m_lays_l (hi : Bi (m.1 1) nc nr nk nl) (hy : y ≤ 1000) : ∀ k n (g : Nat → Int32), k ≤ 2 ^ nc → k < n → (∀ s, k ≤ s → s < 2 ^ nc → pcN s ≤ nk → g s = nI (DD (m.1 1) y nc nk s)) → ∃ g', (∀ s, s < 2 ^ nc → pcN s ≤ nk → g' s = nI (DD (m.1 1) y nc nk s)) ∧ f_X11_laysSeats_18 n (nI y) (nI nk) (nI k - 1) (pK m g) = some (pK m g') := by
  have hn := hi.cnt
  have h128 : 2 ^ nc ≤ 128 := by
    have h2 : 2 ^ nc ≤ 2 ^ 7 := Nat.pow_le_pow_right (by decide) (by omega)
    exact h2
  intro k
  induction k with
  | zero =>
    intro n g hk h1 hg
    obtain ⟨n, rfl⟩ := fu_pos h1
    refine ⟨g, fun s hs => hg s (by omega) hs, ?_⟩
    show b_X11_laysSeats_18 _ (nI y) (nI nk) (nI 0 - 1) _ = _
    unfold b_X11_laysSeats_18
    rw [if_pos (by decide)]
  | succ k ih =>
    intro n g hk h1 hg
    obtain ⟨n, rfl⟩ := fu_pos h1
    have em : nI k + (-1 : Int32) = nI k - 1 := (Int32.sub_eq_add_neg _ _).symm
    have hpk := pcN_small k
    show ∃ g', _ ∧ b_X11_laysSeats_18 _ (nI y) (nI nk) (nI (k + 1) - 1) _ = _
    rw [nI_pred]
    unfold b_X11_laysSeats_18 f_X11_laysSeats_44
    rw [if_neg (nI_pos (by omega)), m_bits (by omega), Option.bind_some, if_pos (gin_nI (by omega) (by omega)), if_pos (gin_nI (by omega) (by omega)), nI_clamp (by omega), gI_pK, gI_pK]
    by_cases hp : pcN k < nk
    · have hgg : ∀ s, s < nc → k.testBit s = false → g (k ||| 2 ^ s) = nI (DD (m.1 1) y nc nk (k ||| 2 ^ s)) := fun s hs hs2 => by
        have hgt := or_gt hs2
        exact hg _ (by omega) (or_small (by omega) hs) (by rw [pcN_add hs2 (by omega)]; omega)
      rw [if_neg (fun q => by have := (nI_eq (by omega) (by omega)).mp q; omega)]
      have q := m_lays_in (m := m) hi hy (T := k) (by omega) hp (f_X11_laysSeats_18 n) hgg nc FU 0 (-1) 0 (by omega) (by have := FU_big; omega) (Or.inl ⟨rfl, rfl, fun s hs => absurd hs (by omega)⟩)
      rw [show f_X11_laysSeats_48 (f_X11_laysSeats_18 n) FU (nI y) (nI nk) (nI k) (nI (pcN k)) (0 : Int32) (pK m (upd g k (-1))) = _ from q, ← DD_step hi hp, em]
      exact ih n (upd g k (nI (DD (m.1 1) y nc nk k))) (by omega) (by omega) (fun s hs hs2 hs3 => by
        by_cases e : s = k
        · rw [e, pk_us]
        · rw [pk_un e]; exact hg s (by omega) hs2 hs3)
    · have stop : ∀ t : Int32, f_X11_laysSeats_48 (f_X11_laysSeats_18 n) FU (nI y) (nI nk) (nI k) (nI (pcN k)) (0 : Int32) (pK m (upd g k t)) = f_X11_laysSeats_18 n (nI y) (nI nk) (nI k - 1) (pK m (upd g k t)) := fun t => by
        obtain ⟨F, hF⟩ := fu_pos (n := FU) (k := 0) (by have := FU_big; omega)
        rw [hF]
        show b_X11_laysSeats_48 (f_X11_laysSeats_18 n) _ (nI y) (nI nk) (nI k) (nI (pcN k)) (0 : Int32) _ = _
        unfold b_X11_laysSeats_48 f_X11_laysSeats_131
        rw [if_pos (nI_le (Nat.le_of_not_lt hp) (by omega)), ite_self, em]
      rw [stop, stop]
      by_cases hq : nI (pcN k) = nI nk
      · rw [if_pos hq]
        exact ih n (upd g k 0) (by omega) (by omega) (fun s hs hs2 hs3 => by
          by_cases e : s = k
          · rw [e, pk_us]
            unfold DD
            rw [show nk - pcN k = 0 by omega]
            rfl
          · rw [pk_un e]; exact hg s (by omega) hs2 hs3)
      · rw [if_neg hq]
        exact ih n (upd g k (-1)) (by omega) (by omega) (fun s hs hs2 hs3 => by
          by_cases e : s = k
          · exfalso
            rw [e] at hs3
            exact hq (by rw [show pcN k = nk by omega])
          · rw [pk_un e]; exact hg s (by omega) hs2 hs3)
theorem m_lays (hi : Bi (m.1 1) nc nr nk nl) (hy : y ≤ 1000) : ∃ g', (∀ s, s < 2 ^ nc → pcN s ≤ nk → g' s = nI (DD (m.1 1) y nc nk s)) ∧ F_X11_laysSeats (nI y) m = some (pK m g') := by
  have hn := hi.cnt
  have h128 : 2 ^ nc ≤ 128 := by
    have h2 : 2 ^ nc ≤ 2 ^ 7 := Nat.pow_le_pow_right (by decide) (by omega)
    exact h2
  obtain ⟨g', h1, h2⟩ := m_lays_l hi hy (2 ^ nc) FU (m.1 9) (Nat.le_refl _) (by have := FU_big; omega) (fun s h3 h4 => absurd h4 (by omega))
  rw [pK_id] at h2
  refine ⟨g', h1, ?_⟩
  unfold F_X11_laysSeats
  rw [hi.n0, hi.n2, one_shl (by omega)]
  exact h2
theorem RR.seats (h : RR x m) (f g : Nat → Int32) : RR (gput x e_shX_shS_132_14 (pA (gsub x e_shX_shS_132_14) f)) (pK m g) :=
  ⟨h.1, h.2.1, h.2.2.1, h.2.2.2.1, h.2.2.2.2.1, h.2.2.2.2.2⟩
theorem s_seating (h : RR x m) (u : Int32) : Sm (F_X10_seating u x) (F_X11_seating u m) := by
  obtain ⟨nc, nr, nk, nl, hb, hi⟩ := h.bnk
  have hn := hi.cnt
  unfold F_X10_seating F_X11_seating F_X7_mostGrey
  rw [x_isYears, show F_X11_isFrom u.toInt64 (0 : Int64) (40 : Int64) = some (if btw u 0 40 then 1 else 0) from m_from u (p := 0) (q := 40) (by omega) (by omega)]
  simp only [F_X10_answer, F_X10_refuse, F_X10_answerOrRefuse, F_X10_grant, F_X10_deny, F_X11_gives, F_X11_refuse, F_X11_orNone, F_X11_is, Option.bind_some, ite01]
  by_cases hu : btw u 0 40
  · obtain ⟨y, _, hy, rfl⟩ := btw_of hu (by omega) (by omega)
    have hb2 : Bq (gsub (gsub x e_shX_shS_132_14) e_shS_shB_2) (m.1 1) (m.2 2) nc nr nk nl := hb
    obtain ⟨f, h1, h2⟩ := x_fill (y := y) hb2 hi (by omega)
    obtain ⟨g, h3, h4⟩ := m_lays (y := y) hi (by omega)
    rw [if_pos hu, if_pos hu, h2, h4, Option.bind_some, Option.bind_some, Option.bind_some, pA_1, pK_9, h1 0 (Nat.two_pow_pos nc), h3 0 (Nat.two_pow_pos nc) (by rw [show pcN 0 = 0 by decide]; omega)]
    exact Sm.fin (h.seats f g) _ _
  · rw [if_neg hu, if_neg hu]
    exact Sm.fin h _ _
/-- the reference looks for a corner -/
theorem m_find (hi : Bi (m.1 1) nc nr nk nl) (hy : y ≤ 1000) {T b : Nat} (hT : T < 2 ^ nc) (hp : pcN T < nk) {g : Nat → Int32} (hg : ∀ s, s < 2 ^ nc → pcN s ≤ nk → g s = nI (DD (m.1 1) y nc nk s)) (hb : b < nc) (hb1 : T.testBit b = false) (hb2 : GG (m.1 1) y nc nk T b = DD (m.1 1) y nc nk T) (hb3 : ∀ s, s < b → T.testBit s = false → GG (m.1 1) y nc nk T s ≠ DD (m.1 1) y nc nk T) (k28 : Int32 → Int32 → Int32 → Int32 → Int32 → GW → Option (Int32 × GW)) (q : Int32) : ∀ k n i, i + k = b → k < n → f_X11_seatOf_37 k28 n (nI y) q (nI T) (nI i) (nI (pcN T)) (pK m g) = k28 (nI y) q (nI (T ||| 2 ^ b)) (nI b) (nI (pcN T + 1)) (pK m g) := by
  have hn := hi.cnt
  have h128 : 2 ^ nc ≤ 128 := by
    have h2 : 2 ^ nc ≤ 2 ^ 7 := Nat.pow_le_pow_right (by decide) (by omega)
    exact h2
  have hGv : ∀ i, i < nc → T.testBit i = false → g (T ||| 2 ^ i) = nI (DD (m.1 1) y nc nk (T ||| 2 ^ i)) ∧ F_X11_greyAt (pK m g) (nI (pcN T)) (nI i) (nI y) = some (nI (gN (m.1 1) y (pcN T) i)) := fun i hi1 hi2 => by
    refine ⟨hg _ (or_small hT hi1) (by rw [pcN_add hi2 (by omega)]; omega), ?_⟩
    rw [m_greyAt (m := pK m g) hi hp hi1]
    exact congrArg some (gN_eq hi hp hi1 hy).1
  intro k
  induction k with
  | zero =>
    intro n i e h1
    obtain ⟨n, rfl⟩ := fu_pos h1
    have eb : i = b := by omega
    subst eb
    have hor := or_small hT hb
    have hd := DD_le (y := y) hi hy (T ||| 2 ^ i)
    obtain ⟨e1, e2⟩ := hGv i hb hb1
    show b_X11_seatOf_37 k28 _ (nI y) q (nI T) (nI i) (nI (pcN T)) (pK m g) = _
    unfold b_X11_seatOf_37 f_X11_seatOf_92
    rw [m_isIn (by omega) (by omega), Option.bind_some, if_neg (show ¬ T.testBit i = true by rw [hb1]; decide), if_pos zer_eq, one_shl (by omega), nI_or, if_pos (gin_nI (by omega) (by omega)), nI_clamp (n := T ||| 2 ^ i) (by omega), pK_9, e1, if_neg (nI_nm (by omega)), e2, Option.bind_some, if_pos (gin_nI (by omega) (by omega)), nI_clamp (n := T) (by omega), nI_add, hg T hT (by omega), show gN (m.1 1) y (pcN T) i + DD (m.1 1) y nc nk (T ||| 2 ^ i) = DD (m.1 1) y nc nk T from hb2, if_pos rfl, nI_1]
  | succ k ih =>
    intro n i e h1
    obtain ⟨n, rfl⟩ := fu_pos h1
    have hor := or_small hT (show i < nc by omega)
    have hd := DD_le (y := y) hi hy (T ||| 2 ^ i)
    have hd2 := DD_le (y := y) hi hy T
    show b_X11_seatOf_37 k28 _ (nI y) q (nI T) (nI i) (nI (pcN T)) (pK m g) = _
    unfold b_X11_seatOf_37 f_X11_seatOf_92
    rw [m_isIn (by omega) (by omega), Option.bind_some, nI_1]
    by_cases hbi : T.testBit i = true
    · rw [if_pos hbi, if_neg one_ne]
      exact ih n (i + 1) (by omega) (by omega)
    · have hbf : T.testBit i = false := by simpa using hbi
      have hGl := GG_le (y := y) hi hy (T := T) (s := i) hp (by omega)
      obtain ⟨e1, e2⟩ := hGv i (by omega) hbf
      rw [if_neg hbi, if_pos zer_eq, one_shl (by omega), nI_or, if_pos (gin_nI (by omega) (by omega)), nI_clamp (n := T ||| 2 ^ i) (by omega), pK_9, e1, if_neg (nI_nm (by omega)), e2, Option.bind_some, if_pos (gin_nI (by omega) (by omega)), nI_clamp (n := T) (by omega), nI_add, hg T hT (by omega), show gN (m.1 1) y (pcN T) i + DD (m.1 1) y nc nk (T ||| 2 ^ i) = GG (m.1 1) y nc nk T i from rfl, if_neg (fun q2 => hb3 i (by omega) hbf ((nI_eq (by omega) (by omega)).mp q2))]
      exact ih n (i + 1) (by omega) (by omega)
theorem seatOf_l (hb : Bq (gsub w e_shS_shB_2) (m.1 1) nm nc nr nk nl) (hi : Bi (m.1 1) nc nr nk nl) (hy : y ≤ 1000) {f g : Nat → Int32} (hf : ∀ s, s < 2 ^ nc → f s = nI (DD (m.1 1) y nc nk s)) (hg : ∀ s, s < 2 ^ nc → pcN s ≤ nk → g s = nI (DD (m.1 1) y nc nk s)) {u : Nat} (hu : u < nk) : ∀ k n n2 c T (b : Int32), c + k = u + 1 → k < n → k < n2 → T < 2 ^ nc → pcN T = c → ∃ r, f_X7_bestSeat_15 n (nI y) (nI u) (nI T) b (nI c) (pA w f) = some (r, pA w f) ∧ f_X11_seatOf_28 n2 (nI y) (nI u) (nI T) b (nI c) (pK m g) = some (r, gI (pK m g) 0 2 0) := by
  have hn := hi.cnt
  have h128 : 2 ^ nc ≤ 128 := by
    have h2 : 2 ^ nc ≤ 2 ^ 7 := Nat.pow_le_pow_right (by decide) (by omega)
    exact h2
  intro k
  induction k with
  | zero =>
    intro n n2 c T b e h1 h2 hT hp
    obtain ⟨n, rfl⟩ := fu_pos h1
    obtain ⟨n2, rfl⟩ := fu_pos h2
    refine ⟨b, ?_, ?_⟩
    · show b_X7_bestSeat_15 _ (nI y) (nI u) (nI T) b (nI c) _ = _
      unfold b_X7_bestSeat_15
      rw [if_pos (nI_lt (by omega) (by omega))]
    · show b_X11_seatOf_28 _ (nI y) (nI u) (nI T) b (nI c) _ = _
      unfold b_X11_seatOf_28
      rw [if_pos (nI_lt (by omega) (by omega))]
      rfl
  | succ k ih =>
    intro n n2 c T b e h1 h2 hT hp
    obtain ⟨n, rfl⟩ := fu_pos h1
    obtain ⟨n2, rfl⟩ := fu_pos h2
    have hb2 : Bq (gsub (pA w f) e_shS_shB_2) (m.1 1) nm nc nr nk nl := hb
    obtain ⟨s, hs, e1, e2, e3, e4⟩ := x_first hb2 hi hy hT (by omega) (fun s hs _ => hf _ (or_small hT hs))
    have e5 := m_find hi hy hT (by omega) hg hs e2 e3 e4 (f_X11_seatOf_28 n2) (nI u) s FU 0 (by omega) (by have := FU_big; omega)
    rw [hp] at e1 e5
    show ∃ r, b_X7_bestSeat_15 _ (nI y) (nI u) (nI T) b (nI c) _ = _ ∧ b_X11_seatOf_28 _ (nI y) (nI u) (nI T) b (nI c) _ = _
    unfold b_X7_bestSeat_15 b_X11_seatOf_28 f_X7_bestSeat_57
    rw [if_neg (nI_nlt (by omega) (by omega)), if_neg (nI_nlt (by omega) (by omega)), show (pA w f).1 2 5 = nI nk from hb.n2, if_neg (nI_ge (by omega) (by omega)), e1, Option.bind_some, if_neg (nI_nm (by omega)), one_shl (by omega), nI_or, nI_1, show f_X11_seatOf_37 (f_X11_seatOf_28 n2) FU (nI y) (nI u) (nI T) (0 : Int32) (nI c) (pK m g) = _ from e5]
    exact ih n n2 (c + 1) (T ||| 2 ^ s) (nI s) (by omega) (by omega) (by omega) (or_small hT hs) (by rw [pcN_add e2 (by omega), hp])
theorem s_seatOf (h : RR x m) (u v : Int32) : Sm (F_X10_seatOf u v x) (F_X11_seatOf u v m) := by
  obtain ⟨nc, nr, nk, nl, hb, hi⟩ := h.bnk
  have hn := hi.cnt
  unfold F_X10_seatOf F_X11_seatOf f_X10_seatOf_19 F_X7_bestSeat
  rw [x_isYears, x_hasClerk hb hi, m_isAhead hi]
  simp only [F_X10_answer, F_X10_refuse, F_X10_answerOrRefuse, F_X10_grant, F_X10_deny, F_X11_gives, F_X11_refuse, F_X11_orNone, F_X11_is, Option.bind_some, ite01]
  rw [if_and]
  by_cases hu : btw u 0 40 ∧ gin v nk
  · obtain ⟨y, _, hy, rfl⟩ := btw_of hu.1 (by omega) (by omega)
    obtain ⟨c, hc, rfl⟩ := gin_of hu.2 (by omega)
    have hb2 : Bq (gsub (gsub x e_shX_shS_132_14) e_shS_shB_2) (m.1 1) (m.2 2) nc nr nk nl := hb
    obtain ⟨f, h1, h2⟩ := x_fill (y := y) hb2 hi (by omega)
    obtain ⟨g, h3, h4⟩ := m_lays (y := y) hi (by omega)
    obtain ⟨r, h5, h6⟩ := seatOf_l hb2 hi (by omega) h1 h3 hc (c + 1) FU FU 0 0 (-1) (by omega) (by have := FU_big; omega) (by have := FU_big; omega) (Nat.two_pow_pos nc) (by decide)
    rw [if_pos hu, if_pos (show gin (nI c) nk ∧ btw (nI y) 0 40 from ⟨hu.2, hu.1⟩), h2, h4, Option.bind_some, Option.bind_some, show f_X7_bestSeat_15 FU (nI y) (nI c) (0 : Int32) (-1) (0 : Int32) _ = _ from h5, show f_X11_seatOf_28 FU (nI y) (nI c) (0 : Int32) (-1) (0 : Int32) _ = _ from h6, Option.bind_some]
    exact Sm.fin (h.seats f g) _ _
  · rw [if_neg hu, if_neg (show ¬ (gin v nk ∧ btw u 0 40) from fun q => hu ⟨q.2, q.1⟩)]
    exact Sm.fin h _ _
end
