/-! Games of one who sits and a draught (made by wip/tools/gen63.py). -/
def jI (z : Int) : Int32 := Int32.ofInt z
theorem jI_toInt {z : Int} (h : -1000 ≤ z) (h2 : z ≤ 1000) : (jI z).toInt = z := Int32.toInt_ofInt_of_le (by omega) (by omega)
theorem jI_nat (n : Nat) : jI (n : Int) = nI n := Int32.ofInt_eq_ofNat
theorem jI_add (a b : Int) : jI a + jI b = jI (a + b) := (Int32.ofInt_add a b).symm
theorem jI_sub (a b : Int) : jI a - jI b = jI (a - b) := (Int32.ofInt_sub a b).symm
theorem jI_lt {a b : Int} (h1 : -1000 ≤ a ∧ a ≤ 1000) (h2 : -1000 ≤ b ∧ b ≤ 1000) : (jI a < jI b) = (a < b) := by
  rw [Int32.lt_iff_toInt_lt, jI_toInt h1.1 h1.2, jI_toInt h2.1 h2.2]
theorem jI_eq {a b : Int} (h1 : -1000 ≤ a ∧ a ≤ 1000) (h2 : -1000 ≤ b ∧ b ≤ 1000) : (jI a = jI b) = (a = b) := by
  apply propext
  constructor
  · intro h
    have := congrArg Int32.toInt h
    rw [jI_toInt h1.1 h1.2, jI_toInt h2.1 h2.2] at this
    exact this
  · intro h; rw [h]
theorem jI_max {a b : Int} (h1 : -1000 ≤ a ∧ a ≤ 1000) (h2 : -1000 ≤ b ∧ b ≤ 1000) : imax (jI a) (jI b) = jI (max a b) := by
  unfold imax
  by_cases h : a < b
  · rw [if_pos (by rw [jI_lt h1 h2]; exact h), Int.max_eq_right (by omega)]
  · rw [if_neg (by rw [jI_lt h1 h2]; exact h), Int.max_eq_left (by omega)]
theorem jI_min {a b : Int} (h1 : -1000 ≤ a ∧ a ≤ 1000) (h2 : -1000 ≤ b ∧ b ≤ 1000) : imin (jI a) (jI b) = jI (min a b) := by
  unfold imin
  by_cases h : b < a
  · rw [if_pos (by rw [jI_lt h2 h1]; exact h), Int.min_eq_right (by omega)]
  · rw [if_neg (by rw [jI_lt h2 h1]; exact h), Int.min_eq_left (by omega)]
/-! what each choice comes to -/
def uq (a : Nat → Int32) (t : Int32) (c : Nat) : Int := if sLk a c < t then 0 else 1
def gq (a : Nat → Int32) (t : Int32) (l c : Nat) : Int := if imin (99 : Int32) ((if l % 2 = 0 then sGt a c 1 else a (27 + 7 * c + 2) / (2 : Int32)) + a (27 + 7 * c + 3)) < t then 0 else 1
def gn (a : Nat → Int32) (t : Int32) (l c : Nat) : Int := gq a t l c - uq a t c
def agS (a : Nat → Int32) (t : Int32) (nk : Nat) : Int := fo (fun c s => s + uq a t c) 0 nk 0
/-- what the last j turns of n come to, s chosen -/
def Rj (a : Nat → Int32) (t : Int32) (nk n : Nat) : Nat → Nat → Int
  | 0, _ => 0
  | j + 1, s => fo (fun c b => if s.testBit c = true then b else if (n - (j + 1)) % 2 = 0 then max b (gn a t (n - (j + 1)) c + Rj a t nk n j (s ||| 2 ^ c)) else min b (gn a t (n - (j + 1)) c + Rj a t nk n j (s ||| 2 ^ c))) 0 nk (Rj a t nk n j s)
theorem uq_01 (a : Nat → Int32) (t : Int32) (c : Nat) : 0 ≤ uq a t c ∧ uq a t c ≤ 1 := by
  unfold uq
  split <;> omega
theorem gq_01 (a : Nat → Int32) (t : Int32) (l c : Nat) : 0 ≤ gq a t l c ∧ gq a t l c ≤ 1 := by
  unfold gq
  split <;> omega
theorem gn_b (a : Nat → Int32) (t : Int32) (l c : Nat) : -1 ≤ gn a t l c ∧ gn a t l c ≤ 1 := by
  have := uq_01 a t c
  have := gq_01 a t l c
  unfold gn
  omega
theorem Rj_b (a : Nat → Int32) (t : Int32) (nk n : Nat) : ∀ (j s : Nat), -(j : Int) ≤ Rj a t nk n j s ∧ Rj a t nk n j s ≤ j := by
  intro j
  induction j with
  | zero => intro s; exact ⟨by show -(0 : Int) ≤ 0; omega, by show (0 : Int) ≤ 0; omega⟩
  | succ j ih =>
    intro s
    have h0 := ih s
    refine fo_ind _ (fun _ b => -((j + 1 : Nat) : Int) ≤ b ∧ b ≤ ((j + 1 : Nat) : Int)) nk 0 _ (by omega) (fun c b _ _ hb => ?_)
    have h1 := ih (s ||| 2 ^ c)
    have h2 := gn_b a t (n - (j + 1)) c
    split
    · exact hb
    · split <;> omega
theorem agS_b (a : Nat → Int32) (t : Int32) (nk : Nat) : 0 ≤ agS a t nk ∧ agS a t nk ≤ nk := by
  have h := fo_ind (fun c s => s + uq a t c) (fun i s => 0 ≤ s ∧ s ≤ (i : Int)) nk 0 (0 : Int) (by omega) (fun c s _ _ hs => by
    have := uq_01 a t c
    omega)
  rw [Nat.zero_add] at h
  exact h
theorem even_iff {l : Nat} (hl : l < 1000) : (nI l - nI l / (2 : Int32) * (2 : Int32) = 0) = (l % 2 = 0) := by
  rw [show nI l - nI l / (2 : Int32) * (2 : Int32) = nI (l % 2) from pk_rem (a := l) (d := 2) (by omega) (by omega) (by omega)]
  exact propext (nI_eq (b := 0) (by omega) (by omega))
def pB (w : GW) (o f g h : Nat → Int32) : GW := (fun i => if i = 0 then o else if i = 1 then f else if i = 2 then g else if i = 3 then h else w.1 i, w.2)
theorem gI_pB0 (w : GW) (o f g h : Nat → Int32) (k : Nat) (v : Int32) : gI (pB w o f g h) 0 k v = pB w (upd o k v) f g h := by
  refine Prod.ext (funext fun i => funext fun q => ?_) rfl
  show (if i = 0 ∧ q = k then v else (if i = 0 then o else if i = 1 then f else if i = 2 then g else if i = 3 then h else w.1 i) q) = (if i = 0 then upd o k v else if i = 1 then f else if i = 2 then g else if i = 3 then h else w.1 i) q
  by_cases h0 : i = 0
  · subst h0
    show (if 0 = 0 ∧ q = k then v else o q) = (if q = k then v else o q)
    by_cases e : q = k
    · rw [if_pos ⟨rfl, e⟩, if_pos e]
    · rw [if_neg (fun z => e z.2), if_neg e]
  by_cases h1 : i = 1
  · subst h1
    rfl
  by_cases h2 : i = 2
  · subst h2
    rfl
  by_cases h3 : i = 3
  · subst h3
    rfl
  rw [if_neg (fun z => h0 z.1)]
  simp only [h0, h1, h2, h3, if_false]
theorem gI_pB1 (w : GW) (o f g h : Nat → Int32) (k : Nat) (v : Int32) : gI (pB w o f g h) 1 k v = pB w o (upd f k v) g h := by
  refine Prod.ext (funext fun i => funext fun q => ?_) rfl
  show (if i = 1 ∧ q = k then v else (if i = 0 then o else if i = 1 then f else if i = 2 then g else if i = 3 then h else w.1 i) q) = (if i = 0 then o else if i = 1 then upd f k v else if i = 2 then g else if i = 3 then h else w.1 i) q
  by_cases h0 : i = 0
  · subst h0
    rfl
  by_cases h1 : i = 1
  · subst h1
    show (if 1 = 1 ∧ q = k then v else f q) = (if q = k then v else f q)
    by_cases e : q = k
    · rw [if_pos ⟨rfl, e⟩, if_pos e]
    · rw [if_neg (fun z => e z.2), if_neg e]
  by_cases h2 : i = 2
  · subst h2
    rfl
  by_cases h3 : i = 3
  · subst h3
    rfl
  rw [if_neg (fun z => h1 z.1)]
  simp only [h0, h1, h2, h3, if_false]
theorem gI_pB2 (w : GW) (o f g h : Nat → Int32) (k : Nat) (v : Int32) : gI (pB w o f g h) 2 k v = pB w o f (upd g k v) h := by
  refine Prod.ext (funext fun i => funext fun q => ?_) rfl
  show (if i = 2 ∧ q = k then v else (if i = 0 then o else if i = 1 then f else if i = 2 then g else if i = 3 then h else w.1 i) q) = (if i = 0 then o else if i = 1 then f else if i = 2 then upd g k v else if i = 3 then h else w.1 i) q
  by_cases h0 : i = 0
  · subst h0
    rfl
  by_cases h1 : i = 1
  · subst h1
    rfl
  by_cases h2 : i = 2
  · subst h2
    show (if 2 = 2 ∧ q = k then v else g q) = (if q = k then v else g q)
    by_cases e : q = k
    · rw [if_pos ⟨rfl, e⟩, if_pos e]
    · rw [if_neg (fun z => e z.2), if_neg e]
  by_cases h3 : i = 3
  · subst h3
    rfl
  rw [if_neg (fun z => h2 z.1)]
  simp only [h0, h1, h2, h3, if_false]
theorem gI_pB3 (w : GW) (o f g h : Nat → Int32) (k : Nat) (v : Int32) : gI (pB w o f g h) 3 k v = pB w o f g (upd h k v) := by
  refine Prod.ext (funext fun i => funext fun q => ?_) rfl
  show (if i = 3 ∧ q = k then v else (if i = 0 then o else if i = 1 then f else if i = 2 then g else if i = 3 then h else w.1 i) q) = (if i = 0 then o else if i = 1 then f else if i = 2 then g else if i = 3 then upd h k v else w.1 i) q
  by_cases h0 : i = 0
  · subst h0
    rfl
  by_cases h1 : i = 1
  · subst h1
    rfl
  by_cases h2 : i = 2
  · subst h2
    rfl
  by_cases h3 : i = 3
  · subst h3
    show (if 3 = 3 ∧ q = k then v else h q) = (if q = k then v else h q)
    by_cases e : q = k
    · rw [if_pos ⟨rfl, e⟩, if_pos e]
    · rw [if_neg (fun z => e z.2), if_neg e]
  rw [if_neg (fun z => h3 z.1)]
  simp only [h0, h1, h2, h3, if_false]
theorem gI_00 (w : GW) (u v : Int32) : gI (gI w 0 0 u) 0 1 v = pB w (upd (upd (w.1 0) 0 u) 1 v) (w.1 1) (w.1 2) (w.1 3) := by
  have e : w = pB w (w.1 0) (w.1 1) (w.1 2) (w.1 3) := by
    refine Prod.ext (funext fun i => ?_) rfl
    show w.1 i = (if i = 0 then w.1 0 else if i = 1 then w.1 1 else if i = 2 then w.1 2 else if i = 3 then w.1 3 else w.1 i)
    by_cases h0 : i = 0
    · rw [if_pos h0, h0]
    · by_cases h1 : i = 1
      · rw [if_neg h0, if_pos h1, h1]
      · by_cases h2 : i = 2
        · rw [if_neg h0, if_neg h1, if_pos h2, h2]
        · by_cases h3 : i = 3
          · rw [if_neg h0, if_neg h1, if_neg h2, if_pos h3, h3]
          · rw [if_neg h0, if_neg h1, if_neg h2, if_neg h3]
  have h1 := gI_pB0 w (w.1 0) (w.1 1) (w.1 2) (w.1 3) 0 u
  rw [← e] at h1
  rw [h1, gI_pB0]
section
variable {w m x : GW} {a : Nat → Int32} {nm : Nat → Int64} {nc nr nk nl n : Nat} {t : Int32}
def fil (f : Nat → Int) (g : Nat → Int32) (i : Nat) : Nat → Int32 := fun k => if k < i then jI (f k) else g k
theorem fil_in {f : Nat → Int} {g : Nat → Int32} {i k : Nat} (h : k < i) : fil f g i k = jI (f k) := if_pos h
theorem fil_step (f : Nat → Int) (g : Nat → Int32) (i : Nat) : upd (fil f g i) i (jI (f i)) = fil f g (i + 1) := by
  funext k
  unfold fil
  by_cases e : k = i
  · subst e; rw [pk_us, if_pos (by omega)]
  · rw [pk_un e]
    by_cases h : k < i
    · rw [if_pos h, if_pos (by omega)]
    · rw [if_neg h, if_neg (by omega)]
theorem fil_0 (f : Nat → Int) (g : Nat → Int32) : fil f g 0 = g := funext fun k => if_neg (by omega)
theorem x_prep_l (hb : Bq (gsub w e_shGB_shB_4) a nm nc nr nk nl) (hi : Bi a nc nr nk nl) {o f g h : Nat → Int32} (ho : o 0 = nI nk) : ∀ k n1 i, i + k = nk → k < n1 → f_X2_prepare_16 n1 t (nI i) (pB w o (fil (uq a t) f i) (fil (gq a t 0) g i) (fil (gq a t 1) h i)) = some (pB w o (fil (uq a t) f nk) (fil (gq a t 0) g nk) (fil (gq a t 1) h nk)) := by
  have hn := hi.cnt
  intro k
  induction k with
  | zero =>
    intro n1 i e h1
    obtain ⟨n1, rfl⟩ := fu_pos h1
    show b_X2_prepare_16 _ t (nI i) _ = _
    unfold b_X2_prepare_16
    rw [show (pB w o (fil (uq a t) f i) (fil (gq a t 0) g i) (fil (gq a t 1) h i)).1 0 0 = nI nk from ho, if_pos (nI_le (by omega) (by omega)), show i = nk by omega]
  | succ k ih =>
    intro n1 i e h1
    obtain ⟨n1, rfl⟩ := fu_pos h1
    have hc : i < nk := by omega
    show b_X2_prepare_16 _ t (nI i) _ = _
    unfold b_X2_prepare_16
    rw [show (pB w o (fil (uq a t) f i) (fil (gq a t 0) g i) (fil (gq a t 1) h i)).1 0 0 = nI nk from ho, if_neg (nI_ge (by omega) (by omega)), if_pos (gin_nI (by omega) (by omega)), nI_clamp (by omega), show (pB w o (fil (uq a t) f i) (fil (gq a t 0) g i) (fil (gq a t 1) h i)).1 11 i = a (27 + 7 * i + 2) from hb.grey hc, show (pB w o (fil (uq a t) f i) (fil (gq a t 0) g i) (fil (gq a t 1) h i)).1 12 i = a (27 + 7 * i + 3) from hb.sham hc, x_looksBy, Option.bind_some]
    have s1 : ∀ (z : Int) , uq a t i = z → f_X2_prepare_61 (f_X2_prepare_16 n1) t (nI i) (a (27 + 7 * i + 3)) (jI z) (nI i) (pB w o (fil (uq a t) f i) (fil (gq a t 0) g i) (fil (gq a t 1) h i)) = some (pB w o (fil (uq a t) f nk) (fil (gq a t 0) g nk) (fil (gq a t 1) h nk)) := by
      intro z hz
      unfold f_X2_prepare_61
      rw [if_pos (gin_nI (by omega) (by omega)), nI_clamp (by omega), gI_pB1, ← hz, fil_step]
      have hb2 : Bq (gsub (pB w o (fil (uq a t) f (i + 1)) (fil (gq a t 0) g i) (fil (gq a t 1) h i)) e_shGB_shB_4) a nm nc nr nk nl := hb
      rw [x_staying hb2 hi hc, Option.bind_some, x_looksBy, Option.bind_some]
      have s2 : ∀ (z : Int), gq a t 0 i = z → f_X2_prepare_89 (f_X2_prepare_16 n1) t (nI i) (a (27 + 7 * i + 3)) (jI z) (nI i) (pB w o (fil (uq a t) f (i + 1)) (fil (gq a t 0) g i) (fil (gq a t 1) h i)) = some (pB w o (fil (uq a t) f nk) (fil (gq a t 0) g nk) (fil (gq a t 1) h nk)) := by
        intro z hz
        unfold f_X2_prepare_89 f_X2_prepare_119
        rw [if_pos (gin_nI (by omega) (by omega)), if_pos (gin_nI (by omega) (by omega)), if_pos (gin_nI (by omega) (by omega)), if_pos (gin_nI (by omega) (by omega)), nI_clamp (by omega), gI_pB2, ← hz, fil_step, show (pB w o (fil (uq a t) f (i + 1)) (fil (gq a t 0) g i) (fil (gq a t 1) h i)).1 11 i = a (27 + 7 * i + 2) from hb.grey hc, x_looksBy, Option.bind_some, gI_pB3, gI_pB3, nI_1]
        by_cases q : imin (99 : Int32) (a (27 + 7 * i + 2) / (2 : Int32) + a (27 + 7 * i + 3)) < t
        · have e3 : gq a t 1 i = 0 := if_pos q
          rw [if_pos q, show (0 : Int32) = jI (gq a t 1 i) by rw [e3]; rfl, fil_step]
          exact ih n1 (i + 1) (by omega) (by omega)
        · have e3 : gq a t 1 i = 1 := if_neg q
          rw [if_neg q, show (1 : Int32) = jI (gq a t 1 i) by rw [e3]; rfl, fil_step]
          exact ih n1 (i + 1) (by omega) (by omega)
      by_cases q : imin (99 : Int32) (sGt a i 1 + a (27 + 7 * i + 3)) < t
      · rw [if_pos q]
        exact s2 0 (if_pos q)
      · rw [if_neg q]
        exact s2 1 (if_neg q)
    by_cases q : imin (99 : Int32) (a (27 + 7 * i + 2) + a (27 + 7 * i + 3)) < t
    · rw [if_pos q]
      exact s1 0 (if_pos q)
    · rw [if_neg q]
      exact s1 1 (if_neg q)
/-- the board as it stands then -/
def bdW (w : GW) (a : Nat → Int32) (t : Int32) (nk n : Nat) : GW := pB w (upd (upd (w.1 0) 0 (nI nk)) 1 (nI n)) (fil (uq a t) (w.1 1) nk) (fil (gq a t 0) (w.1 2) nk) (fil (gq a t 1) (w.1 3) nk)
theorem x_prep (hb : Bq (gsub w e_shGB_shB_4) a nm nc nr nk nl) (hi : Bi a nc nr nk nl) : F_X2_prepare t (nI n) w = some (bdW w a t nk n) := by
  unfold F_X2_prepare
  rw [show w.1 4 5 = nI nk from hb.n2, gI_00]
  have q := x_prep_l (t := t) (o := upd (upd (w.1 0) 0 (nI nk)) 1 (nI n)) (f := w.1 1) (g := w.1 2) (h := w.1 3) hb hi (by rw [pk_un (by omega), pk_us]) nk FU 0 (by omega) (by have := hi.cnt; have := FU_big; omega)
  rw [fil_0, fil_0, fil_0] at q
  exact q
theorem x_stand_l {b : GW} (h6 : nk ≤ 6) (h0 : b.1 0 0 = nI nk) (h1 : ∀ c, c < nk → b.1 1 c = jI (uq a t c)) : ∀ k n1 i s, i + k = nk → k < n1 → f_X2_standing_4 b n1 (jI s) (nI i) = some (jI (fo (fun c s => s + uq a t c) i k s)) := by
  intro k
  induction k with
  | zero =>
    intro n1 i s e h2
    obtain ⟨n1, rfl⟩ := fu_pos h2
    show b_X2_standing_4 _ b (jI s) (nI i) = _
    unfold b_X2_standing_4
    rw [h0, if_pos (nI_le (by omega) (by omega))]
    rfl
  | succ k ih =>
    intro n1 i s e h2
    obtain ⟨n1, rfl⟩ := fu_pos h2
    show b_X2_standing_4 _ b (jI s) (nI i) = _
    unfold b_X2_standing_4
    rw [h0, if_neg (nI_ge (by omega) (by omega)), if_pos (gin_nI (by omega) (by omega)), nI_clamp (by omega), h1 i (by omega), jI_add, nI_1, ih n1 (i + 1) _ (by omega) (by omega)]
    rfl
theorem x_gainBy {b : GW} (h6 : nk ≤ 6) (h0 : b.1 0 0 = nI nk) (h1 : ∀ c, c < nk → b.1 1 c = jI (uq a t c)) (h2 : ∀ c, c < nk → b.1 2 c = jI (gq a t 0 c)) (h3 : ∀ c, c < nk → b.1 3 c = jI (gq a t 1 c)) {l c : Nat} (hl : l < 1000) (hc : c < nk) : F_X2_gainBy b (nI c) (nI l) = some (jI (gn a t l c)) := by
  unfold F_X2_gainBy f_X2_gainBy_36 F_X2_isSittersTurn
  rw [if_neg (nI_pos (by omega)), h0, if_pos (nI_lt hc (by omega)), if_pos (gin_nI (by omega) (by omega)), if_pos (gin_nI (by omega) (by omega)), if_pos (gin_nI (by omega) (by omega)), if_pos (gin_nI (by omega) (by omega)), nI_clamp (by omega), h1 c hc, h2 c hc, h3 c hc, jI_sub, jI_sub]
  by_cases e : l % 2 = 0
  · rw [if_pos (by rw [even_iff hl]; exact e), Option.bind_some, if_neg one_ne]
    have : gq a t l c = gq a t 0 c := by unfold gq; rw [if_pos e, if_pos rfl]
    unfold gn
    rw [this]
  · rw [if_neg (by rw [even_iff hl]; exact e), Option.bind_some, if_pos zer_eq]
    have : gq a t l c = gq a t 1 c := by unfold gq; rw [if_neg e, if_neg (show ¬ 1 % 2 = 0 by decide)]
    unfold gn
    rw [this]
theorem x_turn {l : Nat} (hl : l < 1000) : F_X2_isSittersTurn (nI l) = some (if l % 2 = 0 then 1 else 0) := by
  unfold F_X2_isSittersTurn
  by_cases e : l % 2 = 0
  · rw [if_pos (by rw [even_iff hl]; exact e), if_pos e]
  · rw [if_neg (by rw [even_iff hl]; exact e), if_neg e]
/-- the class's recursion -/
theorem x_gain {b : GW} (h6 : nk ≤ 6) (hn4 : n ≤ 4) (h0 : b.1 0 0 = nI nk) (h01 : b.1 0 1 = nI n) (h1 : ∀ c, c < nk → b.1 1 c = jI (uq a t c)) (h2 : ∀ c, c < nk → b.1 2 c = jI (gq a t 0 c)) (h3 : ∀ c, c < nk → b.1 3 c = jI (gq a t 1 c)) : ∀ j d l s, l + j = n → j < d → s < 2 ^ nk → FR_X10_gainFrom b d (nI l) (nI s) = some (jI (Rj a t nk n j s)) := by
  have h64 := p256 (n := nk) (by omega)
  intro j
  induction j with
  | zero =>
    intro d l s e hd hs
    obtain ⟨d, rfl⟩ := fu_pos hd
    show B_X10_gainFrom _ b (nI l) (nI s) = _
    unfold B_X10_gainFrom
    rw [h01, if_pos (nI_le (by omega) (by omega))]
    rfl
  | succ j ih =>
    intro d l s e hd hs
    obtain ⟨d, rfl⟩ := fu_pos hd
    have el : n - (j + 1) = l := by omega
    have key : ∀ k n1 i v, i + k = nk → k < n1 → -4 ≤ v → v ≤ 4 → f_X10_gainFrom_27 (FR_X10_gainFrom b d) b n1 (nI l) (nI s) (jI v) (nI i) = some (jI (fo (fun c b => if s.testBit c = true then b else if (n - (j + 1)) % 2 = 0 then max b (gn a t (n - (j + 1)) c + Rj a t nk n j (s ||| 2 ^ c)) else min b (gn a t (n - (j + 1)) c + Rj a t nk n j (s ||| 2 ^ c))) i k v)) := by
      intro k
      induction k with
      | zero =>
        intro n1 i v e2 h5 hv hv2
        obtain ⟨n1, rfl⟩ := fu_pos h5
        show b_X10_gainFrom_27 _ _ b (nI l) (nI s) (jI v) (nI i) = _
        unfold b_X10_gainFrom_27
        rw [h0, if_pos (nI_le (by omega) (by omega))]
        rfl
      | succ k ihk =>
        intro n1 i v e2 h5 hv hv2
        obtain ⟨n1, rfl⟩ := fu_pos h5
        have hor := or_small hs (show i < nk by omega)
        have hR := Rj_b a t nk n j (s ||| 2 ^ i)
        have hg := gn_b a t l i
        show b_X10_gainFrom_27 _ _ b (nI l) (nI s) (jI v) (nI i) = some (jI (fo (fun c b => if s.testBit c = true then b else if (n - (j + 1)) % 2 = 0 then max b (gn a t (n - (j + 1)) c + Rj a t nk n j (s ||| 2 ^ c)) else min b (gn a t (n - (j + 1)) c + Rj a t nk n j (s ||| 2 ^ c))) (i + 1) k (if s.testBit i = true then v else if (n - (j + 1)) % 2 = 0 then max v (gn a t (n - (j + 1)) i + Rj a t nk n j (s ||| 2 ^ i)) else min v (gn a t (n - (j + 1)) i + Rj a t nk n j (s ||| 2 ^ i)))))
        unfold b_X10_gainFrom_27 f_X10_gainFrom_90 f_X10_gainFrom_91
        rw [h0, if_neg (nI_ge (by omega) (by omega)), nI_1, nI_1]
        by_cases hb : s.testBit i = true
        · rw [if_neg (fun q => by rw [(bitC (by omega) (by omega)).mp q] at hb; cases hb), if_pos hb]
          exact ihk n1 (i + 1) v (by omega) (by omega) hv hv2
        · rw [if_pos ((bitC (by omega) (by omega)).mpr (by simpa using hb)), if_neg hb, x_gainBy h6 h0 h1 h2 h3 (l := l) (by omega) (by omega), Option.bind_some, one_shl (by omega), nI_or, ih d (l + 1) (s ||| 2 ^ i) (by omega) (by omega) hor, Option.bind_some, x_turn (by omega), Option.bind_some, jI_add, jI_min (by omega) (by omega), jI_max (by omega) (by omega), el]
          by_cases ev : l % 2 = 0
          · rw [if_pos ev, if_neg one_ne, if_pos ev]
            have := ihk n1 (i + 1) (max v (gn a t l i + Rj a t nk n j (s ||| 2 ^ i))) (by omega) (by omega) (by omega) (by omega)
            rw [el] at this
            exact this
          · rw [if_neg ev, if_pos zer_eq, if_neg ev]
            have := ihk n1 (i + 1) (min v (gn a t l i + Rj a t nk n j (s ||| 2 ^ i))) (by omega) (by omega) (by omega) (by omega)
            rw [el] at this
            exact this
    have hR0 := Rj_b a t nk n j s
    show B_X10_gainFrom _ b (nI l) (nI s) = _
    unfold B_X10_gainFrom
    rw [h01, if_neg (nI_ge (by omega) (by omega)), if_pos (nI_ltL (by omega) (by omega)), nI_1, ih d (l + 1) s (by omega) (by omega) hs, Option.bind_some]
    exact key nk FU 0 _ (by omega) (by have := FU_big; omega) (by omega) (by omega)
end
