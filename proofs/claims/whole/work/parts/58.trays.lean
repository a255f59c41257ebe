/-! Trays. -/
def TT (u m : GW) (t : Nat) : Prop :=
  (u.1 6 t = (-1 : Int32) ∧ m.1 4 t = (-1 : Int32)) ∨
  (∃ s n, s ≤ 3 ∧ n ≤ 60 ∧ u.1 6 t = nI s ∧ m.1 3 t = nI s ∧ u.1 7 t = nI n ∧ m.1 4 t = nI n ∧ ∀ k, k < n → u.2 (2 + t) k = m.2 5 (60 * t + k))
def pR (u : GW) (t : Nat) (f : Nat → Int64) : GW := (u.1, fun i => if i = 2 + t then f else u.2 i)
def pT (m : GW) (f3 f4 : Nat → Int32) (f5 : Nat → Int64) : GW := (fun i => if i = 3 then f3 else if i = 4 then f4 else m.1 i, fun i => if i = 5 then f5 else m.2 i)
theorem pR_row (u : GW) (t : Nat) (f : Nat → Int64) : (pR u t f).2 (2 + t) = f := if_pos rfl
theorem pR_pR (u : GW) (t : Nat) (f g : Nat → Int64) : pR (pR u t f) t g = pR u t g := by
  refine Prod.ext rfl (funext fun i => ?_)
  show (if i = 2 + t then g else (if i = 2 + t then f else u.2 i)) = (if i = 2 + t then g else u.2 i)
  by_cases h : i = 2 + t
  · rw [if_pos h, if_pos h]
  · rw [if_neg h, if_neg h, if_neg h]
theorem gL_pR (u : GW) (t k : Nat) (v : Int64) : gL u (2 + t) k v = pR u t (vp_updL (u.2 (2 + t)) k v) := by
  refine Prod.ext rfl (funext fun i => funext fun j => ?_)
  show (if i = 2 + t ∧ j = k then v else u.2 i j) = (if i = 2 + t then vp_updL (u.2 (2 + t)) k v else u.2 i) j
  by_cases h : i = 2 + t
  · rw [if_pos h, h]
    show _ = (if j = k then v else u.2 (2 + t) j)
    by_cases h2 : j = k
    · rw [if_pos ⟨rfl, h2⟩, if_pos h2]
    · rw [if_neg (fun q => h2 q.2), if_neg h2]
  · rw [if_neg (fun q => h q.1), if_neg h]
theorem pR_id (u : GW) (t : Nat) : pR u t (u.2 (2 + t)) = u := by
  refine Prod.ext rfl (funext fun i => ?_)
  show (if i = 2 + t then u.2 (2 + t) else u.2 i) = u.2 i
  by_cases h : i = 2 + t
  · rw [if_pos h, h]
  · rw [if_neg h]
theorem pT_id (m : GW) : pT m (m.1 3) (m.1 4) (m.2 5) = m := by
  refine Prod.ext (funext fun i => ?_) (funext fun i => ?_)
  · show (if i = 3 then m.1 3 else if i = 4 then m.1 4 else m.1 i) = m.1 i
    by_cases h : i = 3
    · rw [if_pos h, h]
    · rw [if_neg h]
      by_cases h : i = 4
      · rw [if_pos h, h]
      · rw [if_neg h]
  · show (if i = 5 then m.2 5 else m.2 i) = m.2 i
    by_cases h : i = 5
    · rw [if_pos h, h]
    · rw [if_neg h]
theorem pT_pT (m : GW) (a b a' b' : Nat → Int32) (c c' : Nat → Int64) : pT (pT m a b c) a' b' c' = pT m a' b' c' := by
  refine Prod.ext (funext fun i => ?_) (funext fun i => ?_)
  · show (if i = 3 then a' else if i = 4 then b' else (if i = 3 then a else if i = 4 then b else m.1 i)) = (if i = 3 then a' else if i = 4 then b' else m.1 i)
    by_cases h : i = 3
    · rw [if_pos h, if_pos h]
    · rw [if_neg h, if_neg h, if_neg h]
      by_cases h : i = 4
      · rw [if_pos h, if_pos h]
      · rw [if_neg h, if_neg h, if_neg h]
  · show (if i = 5 then c' else (if i = 5 then c else m.2 i)) = (if i = 5 then c' else m.2 i)
    by_cases h : i = 5
    · rw [if_pos h, if_pos h]
    · rw [if_neg h, if_neg h, if_neg h]
theorem gL_pT (m : GW) (a b : Nat → Int32) (c : Nat → Int64) (k : Nat) (v : Int64) : gL (pT m a b c) 5 k v = pT m a b (vp_updL c k v) := by
  refine Prod.ext rfl (funext fun i => funext fun j => ?_)
  show (if i = 5 ∧ j = k then v else (if i = 5 then c else m.2 i) j) = (if i = 5 then vp_updL c k v else m.2 i) j
  by_cases h : i = 5
  · rw [if_pos h, if_pos h]
    show _ = (if j = k then v else c j)
    by_cases h2 : j = k
    · rw [if_pos ⟨h, h2⟩, if_pos h2]
    · rw [if_neg (fun q => h2 q.2), if_neg h2]
  · rw [if_neg (fun q => h q.1), if_neg h, if_neg h]
theorem gI3_pT (m : GW) (k l : Nat) (v w : Int32) : gI (gI m 3 k v) 4 l w = pT m (upd (m.1 3) k v) (upd (m.1 4) l w) (m.2 5) := by
  refine Prod.ext (funext fun i => funext fun j => ?_) (funext fun i => ?_)
  · show (if i = 4 ∧ j = l then w else if i = 3 ∧ j = k then v else m.1 i j) = (if i = 3 then upd (m.1 3) k v else if i = 4 then upd (m.1 4) l w else m.1 i) j
    by_cases h : i = 3
    · subst h
      rw [if_neg (by omega), if_pos rfl]
      show _ = (if j = k then v else m.1 3 j)
      by_cases h2 : j = k
      · rw [if_pos ⟨rfl, h2⟩, if_pos h2]
      · rw [if_neg (fun q => h2 q.2), if_neg h2]
    · rw [if_neg h]
      by_cases h4 : i = 4
      · subst h4
        rw [if_pos rfl]
        show _ = (if j = l then w else m.1 4 j)
        by_cases h2 : j = l
        · rw [if_pos ⟨rfl, h2⟩, if_pos h2]
        · rw [if_neg (fun q => h2 q.2), if_neg h2, if_neg (by omega)]
      · rw [if_neg (fun q => h4 q.1), if_neg (fun q => h q.1), if_neg h4]
  · show m.2 i = (if i = 5 then m.2 5 else m.2 i)
    by_cases h : i = 5
    · rw [if_pos h, h]
    · rw [if_neg h]
section
variable {x m u : GW}
theorem Rtr.tt (h : Rtr x m) {t : Nat} (ht : t < 4) : TT (gsub x e_shX_shTr_1) m t := by
  have : t = 0 ∨ t = 1 ∨ t = 2 ∨ t = 3 := by omega
  rcases this with rfl | rfl | rfl | rfl
  · exact h.1
  · exact h.2.1
  · exact h.2.2.1
  · exact h.2.2.2
theorem RR.tray (h : RR x m) {u' : GW} {f3 f4 : Nat → Int32} {f5 : Nat → Int64} (ht : ∀ t, t < 4 → TT u' (pT m f3 f4 f5) t) : RR (gput x e_shX_shTr_1 u') (pT m f3 f4 f5) :=
  ⟨h.1, ⟨ht 0 (by omega), ht 1 (by omega), ht 2 (by omega), ht 3 (by omega)⟩, h.2.2.1, h.2.2.2.1, h.2.2.2.2.1, h.2.2.2.2.2⟩
theorem x_isTray (u : GW) (v : Int32) : F_X9_isTray u v = some (if gin v 4 then 1 else 0) := has_iff v 4 (by omega)
theorem m_isTray (v : Int32) : F_X11_isTray v = some (if gin v 4 then 1 else 0) := has_iff v 4 (by omega)
theorem x_isThere (u : GW) {t : Nat} (ht : t < 4) : F_X9_isThere u (nI t) = some (if u.1 6 t = (-1 : Int32) then 0 else 1) := by
  unfold F_X9_isThere
  rw [x_isTray, if_pos (gin_nI ht (by omega)), Option.bind_some, if_neg one_ne, if_pos (gin_nI ht (by omega)), nI_clamp (by omega)]
  split <;> rfl
theorem x_hasFrom {t s n : Nat} (ht : t < 4) (hs : s ≤ 3) (h6 : u.1 6 t = nI s) (h7 : u.1 7 t = nI n) (hn : n ≤ 60) (i j : Nat) (hi : i < 2147483648) (hj : j < 2147483648) : F_X9_hasFrom u (nI t) (nI i) (nI j) = some (if i + j ≤ n then 1 else 0) := by
  unfold F_X9_hasFrom
  rw [x_isThere u ht, h6, if_neg (nI_nm (by omega)), Option.bind_some, if_neg one_ne, if_neg (nI_pos hi), if_neg (nI_pos hj), if_pos (gin_nI ht (by omega)), nI_clamp (by omega), h7]
  by_cases h1 : n < i
  · rw [if_pos (nI_lt h1 hi), if_neg (by omega)]
  · rw [if_neg (nI_nlt (Nat.le_of_not_lt h1) (by omega)), nI_sub (Nat.le_of_not_lt h1)]
    by_cases h2 : n - i < j
    · rw [if_pos (nI_lt h2 hj), if_neg (by omega)]
    · rw [if_neg (nI_nlt (Nat.le_of_not_lt h2) (by omega)), if_pos (by omega)]
theorem x_hasFrom_no {t s : Nat} (ht : t < 4) (hs : s ≤ 3) (h6 : u.1 6 t = nI s) {p q : Int32} (h : p < 0 ∨ q < 0) : F_X9_hasFrom u (nI t) p q = some 0 := by
  unfold F_X9_hasFrom
  rw [x_isThere u ht, h6, if_neg (nI_nm (by omega)), Option.bind_some, if_neg one_ne]
  by_cases h1 : p < 0
  · rw [if_pos h1]
  · rw [if_neg h1]
    rcases h with h | h
    · exact absurd h h1
    · rw [if_pos h]
/-- why a place is none, as both say it -/
theorem why_both (hT : ∀ t, t < 4 → TT u m t) (p q : Int32) : (∃ v, v ≤ 3 ∧ 1 ≤ v ∧ F_X9_whyNot u p q = some (nI v) ∧ F_X11_wrongPlace m p q = some (nI v)) ∨ (∃ t s n i, t < 4 ∧ s ≤ 3 ∧ n ≤ 60 ∧ i < n ∧ p = nI t ∧ q = nI i ∧ u.1 6 t = nI s ∧ m.1 3 t = nI s ∧ u.1 7 t = nI n ∧ m.1 4 t = nI n ∧ (∀ k, k < n → u.2 (2 + t) k = m.2 5 (60 * t + k)) ∧ F_X9_whyNot u p q = some (nI 0) ∧ F_X11_wrongPlace m p q = some (nI 0)) := by
  unfold F_X9_whyNot F_X11_wrongPlace
  rw [x_isTray, m_isTray, Option.bind_some, Option.bind_some, ite01, ite01]
  by_cases hp : gin p 4
  · obtain ⟨t, ht, rfl⟩ := gin_of hp (by omega)
    rw [if_pos hp, if_pos hp, x_isThere u ht, Option.bind_some, if_pos hp, nI_clamp (by omega)]
    rcases hT t ht with ⟨h1, h2⟩ | ⟨s, n, hs, hn, h1, h2, h3, h4, h5⟩
    · refine Or.inl ⟨2, by omega, by omega, ?_, ?_⟩
      · rw [if_pos h1, if_pos zer_eq]; rfl
      · rw [if_pos h2]; rfl
    · rw [h1, h4, if_neg (nI_nm (by omega)), if_neg one_ne, if_neg (nI_nm (by omega))]
      by_cases hq : q < 0
      · refine Or.inl ⟨3, by omega, by omega, ?_, ?_⟩
        · rw [x_hasFrom_no ht hs h1 (Or.inl hq), Option.bind_some, if_pos zer_eq]; rfl
        · rw [if_pos hq]; rfl
      · obtain ⟨i, hi, rfl⟩ := nI_of hq
        rw [if_neg hq, show F_X9_hasFrom u (nI t) (nI i) (1 : Int32) = _ from x_hasFrom ht hs h1 h3 hn i 1 hi (by omega), Option.bind_some, ite01]
        by_cases hl : i < n
        · refine Or.inr ⟨t, s, n, i, ht, hs, hn, hl, rfl, rfl, h1, h2, h3, h4, h5, ?_, ?_⟩
          · rw [if_pos (by omega)]; rfl
          · rw [if_pos (nI_lt hl (by omega))]; rfl
        · refine Or.inl ⟨3, by omega, by omega, ?_, ?_⟩
          · rw [if_neg (by omega)]; rfl
          · rw [if_neg (nI_nlt (Nat.le_of_not_lt hl) hi)]; rfl
  · refine Or.inl ⟨1, by omega, by omega, ?_, ?_⟩
    · rw [if_neg hp]; rfl
    · rw [if_neg hp]; rfl
theorem cut_same (v : Int64) (s : Int32) : F_X9_cut v s = F_X11_cut v s := rfl
theorem cut_some (v : Int64) (s : Int32) : ∃ r, F_X11_cut v s = some r := by
  unfold F_X11_cut
  split
  · exact ⟨_, rfl⟩
  · split
    · exact ⟨_, rfl⟩
    · split
      · exact ⟨_, rfl⟩
      · exact ⟨_, rfl⟩
theorem x_put {t s n i : Nat} (ht : t < 4) (hs : s ≤ 3) (h6 : u.1 6 t = nI s) (h7 : u.1 7 t = nI n) (hn : n ≤ 60) (hi : i < n) {v r : Int64} (hr : F_X11_cut v (nI s) = some r) : F_X9_put (nI t) (nI i) v u = some (pR u t (vp_updL (u.2 (2 + t)) i r)) := by
  unfold F_X9_put
  rw [show F_X9_hasFrom u (nI t) (nI i) (1 : Int32) = _ from x_hasFrom ht hs h6 h7 hn i 1 (by omega) (by omega), if_pos (by omega), Option.bind_some, if_neg one_ne, if_pos (gin_nI ht (by omega)), if_pos (gin_nI ht (by omega)), nI_clamp (n := t) (by omega), h6, cut_same, hr, Option.bind_some, if_pos (gin_nI (by omega) (by omega)), nI_clamp (n := i) (by omega), gL_pR]
theorem x_at {t s n i : Nat} (ht : t < 4) (hs : s ≤ 3) (h6 : u.1 6 t = nI s) (h7 : u.1 7 t = nI n) (hn : n ≤ 60) (hi : i < n) : F_X9_at u (nI t) (nI i) = some (u.2 (2 + t) i) := by
  unfold F_X9_at
  rw [show F_X9_hasFrom u (nI t) (nI i) (1 : Int32) = _ from x_hasFrom ht hs h6 h7 hn i 1 (by omega) (by omega), if_pos (by omega), Option.bind_some, if_neg one_ne, if_pos (gin_nI ht (by omega)), if_pos (gin_nI (by omega) (by omega)), nI_clamp (n := t) (by omega), nI_clamp (n := i) (by omega)]
/-- a write, on both sides -/
theorem TT.put (hT : ∀ t, t < 4 → TT u m t) {t i n : Nat} (h7 : u.1 7 t = nI n) (hn : n ≤ 60) (hi : i < n) (ht : t < 4) (r : Int64) : ∀ t', t' < 4 → TT (pR u t (vp_updL (u.2 (2 + t)) i r)) (pT m (m.1 3) (m.1 4) (vp_updL (m.2 5) (60 * t + i) r)) t' := by
  intro t' ht'
  rcases hT t' ht' with ⟨h1, h2⟩ | ⟨s', n', hs', hn', h1, h2, h3, h4, h5⟩
  · exact Or.inl ⟨h1, h2⟩
  · refine Or.inr ⟨s', n', hs', hn', h1, h2, h3, h4, fun k hk => ?_⟩
    show (if 2 + t' = 2 + t then vp_updL (u.2 (2 + t)) i r else u.2 (2 + t')) k = vp_updL (m.2 5) (60 * t + i) r (60 * t' + k)
    by_cases e : t' = t
    · subst e
      rw [if_pos rfl]
      by_cases e2 : k = i
      · subst e2; rw [pk_uLs, pk_uLs]
      · rw [pk_uLn e2, pk_uLn (by omega)]; exact h5 k hk
    · rw [if_neg (by omega), pk_uLn (by omega)]
      exact h5 k hk
theorem s_write (h : RR x m) (p q : Int32) (v : Int64) : Sm (F_X10_write p q v x) (F_X11_write p q v m) := by
  have hT : ∀ t, t < 4 → TT (gsub x e_shX_shTr_1) m t := fun t ht => h.2.1.tt ht
  unfold F_X10_write F_X11_write f_X11_write_34
  rcases why_both hT p q with ⟨w, hw, hw1, e1, e2⟩ | ⟨t, s, n, i, ht, hs, hn, hi, rfl, rfl, h6, h3, h7, h4, h5, e1, e2⟩
  · rw [e1, e2, Option.bind_some, Option.bind_some, if_neg (nI_ne0 (by omega) (by omega)), if_neg (nI_ne0 (by omega) (by omega))]
    unfold F_X11_is
    rw [if_neg (nI_ne0 (by omega) (by omega))]
    exact Sm.fin h 0 _
  · obtain ⟨r, hr⟩ := cut_some v (nI s)
    rw [e1, e2, Option.bind_some, Option.bind_some, if_pos nI_0, if_pos nI_0, x_put ht hs h6 h7 hn hi hr, Option.bind_some, if_pos (gin_nI ht (by omega)), nI_clamp (n := t) (by omega), h3, hr, Option.bind_some, nq_Lmul, nI_add, if_pos (gin_nI (by show 60 * t + i < 240; omega) (by omega)), nI_clamp (n := 60 * t + i) (by omega)]
    have q2 := h.tray (TT.put hT h7 hn hi ht r)
    have e3 : gL m 5 (60 * t + i) r = pT m (m.1 3) (m.1 4) (vp_updL (m.2 5) (60 * t + i) r) := by
      have := gL_pT m (m.1 3) (m.1 4) (m.2 5) (60 * t + i) r
      rw [pT_id] at this
      exact this
    rw [e3]
    exact Sm.fin q2 1 0
theorem s_read (h : RR x m) (p q : Int32) : SmL (F_X10_read p q x) (F_X11_read p q m) := by
  have hT : ∀ t, t < 4 → TT (gsub x e_shX_shTr_1) m t := fun t ht => h.2.1.tt ht
  unfold F_X10_read F_X11_read
  rcases why_both hT p q with ⟨w, hw, hw1, e1, e2⟩ | ⟨t, s, n, i, ht, hs, hn, hi, rfl, rfl, h6, h3, h7, h4, h5, e1, e2⟩
  · rw [e1, e2, Option.bind_some, Option.bind_some, if_neg (nI_ne0 (by omega) (by omega)), if_neg (nI_nle (by omega) (by omega))]
    exact ⟨(-1 : Int64), _, _, rfl, rfl, h.st _⟩
  · have e3 : F_X9_at (gsub (gI x 0 15 (0 : Int32)) e_shX_shTr_1) (nI t) (nI i) = some ((gsub x e_shX_shTr_1).2 (2 + t) i) := x_at (u := gsub (gI x 0 15 (0 : Int32)) e_shX_shTr_1) ht hs (by
      have : t = 0 ∨ t = 1 ∨ t = 2 ∨ t = 3 := by omega
      exact h6) h7 hn hi
    rw [e1, e2, Option.bind_some, Option.bind_some, if_pos nI_0, if_pos (by decide), e3, Option.bind_some, nq_Lmul, nI_add, if_pos (gin_nI (by show 60 * t + i < 240; omega) (by omega)), nI_clamp (n := 60 * t + i) (by omega), h5 i hi]
    exact ⟨_, _, _, rfl, rfl, h.st _⟩
/-! a tray is laid -/
theorem x_lay_l {t : Nat} (ht : t < 4) {f : Nat → Int64} : ∀ k n i, i + k = 60 → k < n → f_X9_lay_25 n (nI t) (nI i) (pR u t (fun k => if k < i then 0 else f k)) = some (pR u t (fun k => if k < 60 then 0 else f k)) := by
  intro k
  induction k with
  | zero =>
    intro n i e h1
    obtain ⟨n, rfl⟩ := fu_pos h1
    show b_X9_lay_25 _ (nI t) (nI i) _ = _
    unfold b_X9_lay_25
    rw [if_pos (nI_leL (by omega) (by omega)), show i = 60 by omega]
  | succ k ih =>
    intro n i e h1
    obtain ⟨n, rfl⟩ := fu_pos h1
    show b_X9_lay_25 _ (nI t) (nI i) _ = _
    unfold b_X9_lay_25
    rw [if_neg (nI_geL (by omega) (by omega)), if_pos (gin_nI ht (by omega)), if_pos (gin_nI (by omega) (by omega)), nI_clamp (n := t) (by omega), nI_clamp (n := i) (by omega), gL_pR, pR_pR, pR_row, nI_1, ← ih n (i + 1) (by omega) (by omega)]
    congr 2
    funext j
    show (if j = i then (0 : Int64) else if j < i then 0 else f j) = (if j < i + 1 then 0 else f j)
    by_cases e1 : j = i
    · rw [if_pos e1, if_pos (by omega)]
    · rw [if_neg e1]
      by_cases e2 : j < i
      · rw [if_pos e2, if_pos (by omega)]
      · rw [if_neg e2, if_neg (by omega)]
theorem m_lay_l {t y : Nat} (ht : t < 4) (hy : y ≤ 60) {a b : Nat → Int32} {f : Nat → Int64} : ∀ k n i, i + k = y → k < n → f_X11_tray_49 n (nI t) (nI y) (nI i) (pT m a b (fun k => if 60 * t ≤ k ∧ k < 60 * t + i then 0 else f k)) = some (1, gI (pT m a b (fun k => if 60 * t ≤ k ∧ k < 60 * t + y then 0 else f k)) 0 2 0) := by
  intro k
  induction k with
  | zero =>
    intro n i e h1
    obtain ⟨n, rfl⟩ := fu_pos h1
    show b_X11_tray_49 _ (nI t) (nI y) (nI i) _ = _
    unfold b_X11_tray_49
    rw [if_pos (nI_le (by omega) (by omega)), show i = y by omega]
    rfl
  | succ k ih =>
    intro n i e h1
    obtain ⟨n, rfl⟩ := fu_pos h1
    show b_X11_tray_49 _ (nI t) (nI y) (nI i) _ = _
    unfold b_X11_tray_49
    rw [if_neg (nI_ge (by omega) (by omega)), nq_Lmul, nI_add, if_pos (gin_nI (by show 60 * t + i < 240; omega) (by omega)), nI_clamp (n := 60 * t + i) (by omega), gL_pT, nI_1, ← ih n (i + 1) (by omega) (by omega)]
    congr 2
    funext j
    show (if j = 60 * t + i then (0 : Int64) else if 60 * t ≤ j ∧ j < 60 * t + i then 0 else f j) = (if 60 * t ≤ j ∧ j < 60 * t + (i + 1) then 0 else f j)
    by_cases e1 : j = 60 * t + i
    · rw [if_pos e1, if_pos (by omega)]
    · rw [if_neg e1]
      by_cases e2 : 60 * t ≤ j ∧ j < 60 * t + i
      · rw [if_pos e2, if_pos (by omega)]
      · rw [if_neg e2, if_neg (by omega)]
theorem s_tray (h : RR x m) (p q r : Int32) : Sm (F_X10_tray p q r x) (F_X11_tray p q r m) := by
  have hT : ∀ t, t < 4 → TT (gsub x e_shX_shTr_1) m t := fun t ht => h.2.1.tt ht
  have no : Sm (some ((0 : Int32), gI x 0 15 1)) (some ((0 : Int32), gI m 0 2 1)) := Sm.fin h 0 1
  unfold F_X10_tray F_X11_tray f_X10_tray_30 f_X11_tray_26
  rw [x_isTray, m_isTray, show F_X10_between q (0 : Int32) (3 : Int32) = some (if btw q 0 3 then 1 else 0) from x_btw q 0 3, show F_X10_between r (0 : Int32) (60 : Int32) = some (if btw r 0 60 then 1 else 0) from x_btw r 0 60, Option.bind_some, Option.bind_some, Option.bind_some, Option.bind_some, ite01, ite01, ite01, ite01]
  by_cases hp : gin p 4
  · obtain ⟨t, ht, rfl⟩ := gin_of hp (by omega)
    rw [if_pos hp, if_pos hp]
    by_cases hq : btw q 0 3
    · obtain ⟨s, _, hs, rfl⟩ := btw_of hq (by omega) (by omega)
      rw [if_pos hq, if_neg (nI_pos (by omega)), if_neg (nI_ngtL (by omega) (by omega)), btw_rngL (q := 60)]
      by_cases hr : btw r 0 60
      · obtain ⟨n, _, hn, rfl⟩ := btw_of hr (by omega) (by omega)
        rw [if_pos hr, if_pos hr, if_pos hp]
        unfold F_X9_lay
        rw [x_isTray, if_pos hp, Option.bind_some, if_neg one_ne, if_pos hp, nI_clamp (n := t) (by omega), gI3_pT]
        have e1 := x_lay_l (u := gI (gI (gsub x e_shX_shTr_1) 6 t (nI s)) 7 t (nI n)) (f := (gsub x e_shX_shTr_1).2 (2 + t)) ht 60 FU 0 (by omega) (by have := FU_big; omega)
        have e2 := m_lay_l (m := m) (a := upd (m.1 3) t (nI s)) (b := upd (m.1 4) t (nI n)) (f := m.2 5) ht hn n FU 0 (by omega) (by have := FU_big; omega)
        have z1 : pR (gI (gI (gsub x e_shX_shTr_1) 6 t (nI s)) 7 t (nI n)) t (fun k => if k < 0 then 0 else (gsub x e_shX_shTr_1).2 (2 + t) k) = gI (gI (gsub x e_shX_shTr_1) 6 t (nI s)) 7 t (nI n) := by
          have : (fun k => if k < 0 then (0 : Int64) else (gsub x e_shX_shTr_1).2 (2 + t) k) = (gI (gI (gsub x e_shX_shTr_1) 6 t (nI s)) 7 t (nI n)).2 (2 + t) := by
            funext k
            rw [if_neg (by omega)]
            rfl
          rw [this, pR_id]
        have z2 : (fun k => if 60 * t ≤ k ∧ k < 60 * t + 0 then (0 : Int64) else m.2 5 k) = m.2 5 := by
          funext k
          rw [if_neg (by omega)]
        rw [z1] at e1
        rw [z2] at e2
        rw [show f_X9_lay_25 FU (nI t) (0 : Int32) _ = _ from e1, show f_X11_tray_49 FU (nI t) (nI n) (0 : Int32) _ = _ from e2, Option.bind_some]
        refine Sm.fin (h.tray ?_) 1 0
        intro t' ht'
        by_cases e : t' = t
        · subst e
          refine Or.inr ⟨s, n, hs, hn, ?_, ?_, ?_, ?_, fun k hk => ?_⟩
          · show (gI (gI (gsub x e_shX_shTr_1) 6 t' (nI s)) 7 t' (nI n)).1 6 t' = nI s
            rw [gI_ne _ _ _ _ (by omega), gI_same]
          · exact pk_us
          · exact gI_same _ _ _ _
          · exact pk_us
          · rw [pR_row]
            show (if k < 60 then (0 : Int64) else _) = (if 60 * t' ≤ 60 * t' + k ∧ 60 * t' + k < 60 * t' + n then 0 else _)
            rw [if_pos (by omega), if_pos (by omega)]
        · rcases hT t' ht' with ⟨h1, h2⟩ | ⟨s', n', hs', hn', h1, h2, h3, h4, h5⟩
          · refine Or.inl ⟨?_, ?_⟩
            · show (gI (gI (gsub x e_shX_shTr_1) 6 t (nI s)) 7 t (nI n)).1 6 t' = _
              rw [gI_ne _ _ _ _ (by omega), gI_ne _ _ _ _ (by omega)]; exact h1
            · exact (pk_un e).trans h2
          · refine Or.inr ⟨s', n', hs', hn', ?_, (pk_un e).trans h2, ?_, (pk_un e).trans h4, fun k hk => ?_⟩
            · show (gI (gI (gsub x e_shX_shTr_1) 6 t (nI s)) 7 t (nI n)).1 6 t' = _
              rw [gI_ne _ _ _ _ (by omega), gI_ne _ _ _ _ (by omega)]; exact h1
            · show (gI (gI (gsub x e_shX_shTr_1) 6 t (nI s)) 7 t (nI n)).1 7 t' = _
              rw [gI_ne _ _ _ _ (by omega), gI_ne _ _ _ _ (by omega)]; exact h3
            · show (if 2 + t' = 2 + t then _ else (gsub x e_shX_shTr_1).2 (2 + t')) k = (if 60 * t ≤ 60 * t' + k ∧ 60 * t' + k < 60 * t + n then 0 else m.2 5 (60 * t' + k))
              rw [if_neg (by omega), if_neg (by omega)]
              exact h5 k hk
      · rw [if_neg hr, if_neg hr]; exact no
    · rw [if_neg hq]
      by_cases h0 : q < 0
      · rw [if_pos h0]; exact no
      · rw [if_neg h0, if_pos (show (3 : Int32) < q from Classical.byContradiction fun q3 => hq ⟨h0, q3⟩)]; exact no
  · rw [if_neg hp, if_neg hp]; exact no
end
