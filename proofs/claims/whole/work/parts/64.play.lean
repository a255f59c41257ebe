/-! The reference plays: level by level (made by wip/tools/gen64.py). -/
def Wg (m : GW) (a : Nat → Int32) (S : Int32) (D O G B : Nat → Int32) : GW := (fun i => if i = 1 then a else if i = 11 then D else if i = 12 then O else if i = 13 then G else if i = 14 then B else if i = 0 then upd (m.1 0) 31 S else m.1 i, m.2)
theorem gI_Wga (m : GW) (a : Nat → Int32) (S : Int32) (D O G B : Nat → Int32) (k : Nat) (v : Int32) : gI (Wg m a S D O G B) 1 k v = Wg m (upd a k v) S D O G B := by
  refine Prod.ext (funext fun i => funext fun q => ?_) rfl
  by_cases h1 : i = 1
  · subst h1
    show (if 1 = 1 ∧ q = k then v else a q) = upd a k v q
    by_cases e : q = k
    · rw [if_pos ⟨rfl, e⟩, e, pk_us]
    · rw [if_neg (fun z => e z.2), pk_un e]
  by_cases h11 : i = 11
  · subst h11
    rfl
  by_cases h12 : i = 12
  · subst h12
    rfl
  by_cases h13 : i = 13
  · subst h13
    rfl
  by_cases h14 : i = 14
  · subst h14
    rfl
  by_cases h0 : i = 0
  · subst h0
    rfl
  show (if i = 1 ∧ q = k then v else (if i = 1 then a else if i = 11 then D else if i = 12 then O else if i = 13 then G else if i = 14 then B else if i = 0 then upd (m.1 0) 31 S else m.1 i) q) = (if i = 1 then _ else if i = 11 then _ else if i = 12 then _ else if i = 13 then _ else if i = 14 then _ else if i = 0 then _ else m.1 i) q
  rw [if_neg (fun z => h1 z.1)]
  simp only [h1, h11, h12, h13, h14, h0, if_false]
theorem gI_WgD (m : GW) (a : Nat → Int32) (S : Int32) (D O G B : Nat → Int32) (k : Nat) (v : Int32) : gI (Wg m a S D O G B) 11 k v = Wg m a S (upd D k v) O G B := by
  refine Prod.ext (funext fun i => funext fun q => ?_) rfl
  by_cases h1 : i = 1
  · subst h1
    rfl
  by_cases h11 : i = 11
  · subst h11
    show (if 11 = 11 ∧ q = k then v else D q) = upd D k v q
    by_cases e : q = k
    · rw [if_pos ⟨rfl, e⟩, e, pk_us]
    · rw [if_neg (fun z => e z.2), pk_un e]
  by_cases h12 : i = 12
  · subst h12
    rfl
  by_cases h13 : i = 13
  · subst h13
    rfl
  by_cases h14 : i = 14
  · subst h14
    rfl
  by_cases h0 : i = 0
  · subst h0
    rfl
  show (if i = 11 ∧ q = k then v else (if i = 1 then a else if i = 11 then D else if i = 12 then O else if i = 13 then G else if i = 14 then B else if i = 0 then upd (m.1 0) 31 S else m.1 i) q) = (if i = 1 then _ else if i = 11 then _ else if i = 12 then _ else if i = 13 then _ else if i = 14 then _ else if i = 0 then _ else m.1 i) q
  rw [if_neg (fun z => h11 z.1)]
  simp only [h1, h11, h12, h13, h14, h0, if_false]
theorem gI_WgO (m : GW) (a : Nat → Int32) (S : Int32) (D O G B : Nat → Int32) (k : Nat) (v : Int32) : gI (Wg m a S D O G B) 12 k v = Wg m a S D (upd O k v) G B := by
  refine Prod.ext (funext fun i => funext fun q => ?_) rfl
  by_cases h1 : i = 1
  · subst h1
    rfl
  by_cases h11 : i = 11
  · subst h11
    rfl
  by_cases h12 : i = 12
  · subst h12
    show (if 12 = 12 ∧ q = k then v else O q) = upd O k v q
    by_cases e : q = k
    · rw [if_pos ⟨rfl, e⟩, e, pk_us]
    · rw [if_neg (fun z => e z.2), pk_un e]
  by_cases h13 : i = 13
  · subst h13
    rfl
  by_cases h14 : i = 14
  · subst h14
    rfl
  by_cases h0 : i = 0
  · subst h0
    rfl
  show (if i = 12 ∧ q = k then v else (if i = 1 then a else if i = 11 then D else if i = 12 then O else if i = 13 then G else if i = 14 then B else if i = 0 then upd (m.1 0) 31 S else m.1 i) q) = (if i = 1 then _ else if i = 11 then _ else if i = 12 then _ else if i = 13 then _ else if i = 14 then _ else if i = 0 then _ else m.1 i) q
  rw [if_neg (fun z => h12 z.1)]
  simp only [h1, h11, h12, h13, h14, h0, if_false]
theorem gI_WgG (m : GW) (a : Nat → Int32) (S : Int32) (D O G B : Nat → Int32) (k : Nat) (v : Int32) : gI (Wg m a S D O G B) 13 k v = Wg m a S D O (upd G k v) B := by
  refine Prod.ext (funext fun i => funext fun q => ?_) rfl
  by_cases h1 : i = 1
  · subst h1
    rfl
  by_cases h11 : i = 11
  · subst h11
    rfl
  by_cases h12 : i = 12
  · subst h12
    rfl
  by_cases h13 : i = 13
  · subst h13
    show (if 13 = 13 ∧ q = k then v else G q) = upd G k v q
    by_cases e : q = k
    · rw [if_pos ⟨rfl, e⟩, e, pk_us]
    · rw [if_neg (fun z => e z.2), pk_un e]
  by_cases h14 : i = 14
  · subst h14
    rfl
  by_cases h0 : i = 0
  · subst h0
    rfl
  show (if i = 13 ∧ q = k then v else (if i = 1 then a else if i = 11 then D else if i = 12 then O else if i = 13 then G else if i = 14 then B else if i = 0 then upd (m.1 0) 31 S else m.1 i) q) = (if i = 1 then _ else if i = 11 then _ else if i = 12 then _ else if i = 13 then _ else if i = 14 then _ else if i = 0 then _ else m.1 i) q
  rw [if_neg (fun z => h13 z.1)]
  simp only [h1, h11, h12, h13, h14, h0, if_false]
theorem gI_WgB (m : GW) (a : Nat → Int32) (S : Int32) (D O G B : Nat → Int32) (k : Nat) (v : Int32) : gI (Wg m a S D O G B) 14 k v = Wg m a S D O G (upd B k v) := by
  refine Prod.ext (funext fun i => funext fun q => ?_) rfl
  by_cases h1 : i = 1
  · subst h1
    rfl
  by_cases h11 : i = 11
  · subst h11
    rfl
  by_cases h12 : i = 12
  · subst h12
    rfl
  by_cases h13 : i = 13
  · subst h13
    rfl
  by_cases h14 : i = 14
  · subst h14
    show (if 14 = 14 ∧ q = k then v else B q) = upd B k v q
    by_cases e : q = k
    · rw [if_pos ⟨rfl, e⟩, e, pk_us]
    · rw [if_neg (fun z => e z.2), pk_un e]
  by_cases h0 : i = 0
  · subst h0
    rfl
  show (if i = 14 ∧ q = k then v else (if i = 1 then a else if i = 11 then D else if i = 12 then O else if i = 13 then G else if i = 14 then B else if i = 0 then upd (m.1 0) 31 S else m.1 i) q) = (if i = 1 then _ else if i = 11 then _ else if i = 12 then _ else if i = 13 then _ else if i = 14 then _ else if i = 0 then _ else m.1 i) q
  rw [if_neg (fun z => h14 z.1)]
  simp only [h1, h11, h12, h13, h14, h0, if_false]
theorem gI_WgS (m : GW) (a : Nat → Int32) (S : Int32) (D O G B : Nat → Int32) (v : Int32) : gI (Wg m a S D O G B) 0 31 v = Wg m a v D O G B := by
  refine Prod.ext (funext fun i => funext fun q => ?_) rfl
  by_cases h1 : i = 1
  · subst h1
    rfl
  by_cases h11 : i = 11
  · subst h11
    rfl
  by_cases h12 : i = 12
  · subst h12
    rfl
  by_cases h13 : i = 13
  · subst h13
    rfl
  by_cases h14 : i = 14
  · subst h14
    rfl
  by_cases h0 : i = 0
  · subst h0
    show (if 0 = 0 ∧ q = 31 then v else upd (m.1 0) 31 S q) = upd (m.1 0) 31 v q
    by_cases e : q = 31
    · rw [if_pos ⟨rfl, e⟩, e, pk_us]
    · rw [if_neg (fun z => e z.2), pk_un e, pk_un e]
  show (if i = 0 ∧ q = 31 then v else (if i = 1 then a else if i = 11 then D else if i = 12 then O else if i = 13 then G else if i = 14 then B else if i = 0 then upd (m.1 0) 31 S else m.1 i) q) = (if i = 1 then _ else if i = 11 then _ else if i = 12 then _ else if i = 13 then _ else if i = 14 then _ else if i = 0 then _ else m.1 i) q
  rw [if_neg (fun z => h0 z.1)]
  simp only [h1, h11, h12, h13, h14, h0, if_false]
theorem Wg_id (m : GW) : m = Wg m (m.1 1) (m.1 0 31) (m.1 11) (m.1 12) (m.1 13) (m.1 14) := by
  refine Prod.ext (funext fun i => funext fun q => ?_) rfl
  by_cases h1 : i = 1
  · subst h1; rfl
  by_cases h11 : i = 11
  · subst h11; rfl
  by_cases h12 : i = 12
  · subst h12; rfl
  by_cases h13 : i = 13
  · subst h13; rfl
  by_cases h14 : i = 14
  · subst h14; rfl
  by_cases h0 : i = 0
  · subst h0
    show m.1 0 q = upd (m.1 0) 31 (m.1 0 31) q
    by_cases e : q = 31
    · rw [e, pk_us]
    · rw [pk_un e]
  show m.1 i q = (if i = 1 then _ else if i = 11 then _ else if i = 12 then _ else if i = 13 then _ else if i = 14 then _ else if i = 0 then _ else m.1 i) q
  simp only [h1, h11, h12, h13, h14, h0, if_false]
/-- a clerk's grey after a deed of level l -/
def mdR (a : Nat → Int32) (l c : Nat) : Nat → Int32 := upd a (27 + 7 * c + 2) (if l % 2 = 0 then sGt a c 1 else a (27 + 7 * c + 2) / (2 : Int32))
section
variable {m : GW} {a a0 : Nat → Int32} {nc nr nk nl n : Nat} {t : Int32}
theorem Bi.md (hi : Bi a nc nr nk nl) {c : Nat} (hc : c < nk) (l : Nat) : Bi (mdR a l c) nc nr nk nl := by
  refine hi.set_grey hc ?_
  split
  · exact sGt_small (y := 1) hi hc (by omega)
  · exact half_small (hi.grey hc)
theorem fo_bumpZ {f g : Nat → Int} {c : Nat} {d : Int} (hc : g c = f c + d) (hne : ∀ j, j ≠ c → g j = f j) : ∀ k i s, i ≤ c → c < i + k → fo (fun j s => s + g j) i k s = fo (fun j s => s + f j) i k s + d := by
  have sh : ∀ k i s (d : Int), fo (fun j s => s + f j) i k (s + d) = fo (fun j s => s + f j) i k s + d := by
    intro k
    induction k with
    | zero => intro i s d; rfl
    | succ k ih =>
      intro i s d
      show fo (fun j s => s + f j) (i + 1) k (s + d + f i) = fo (fun j s => s + f j) (i + 1) k (s + f i) + d
      rw [show s + d + f i = s + f i + d by omega, ih]
  intro k
  induction k with
  | zero => intro i s h1 h2; exact absurd h2 (by omega)
  | succ k ih =>
    intro i s h1 h2
    show fo (fun j s => s + g j) (i + 1) k (s + g i) = fo (fun j s => s + f j) (i + 1) k (s + f i) + d
    by_cases e : i = c
    · subst e
      rw [hc, show s + (f i + d) = s + f i + d by omega, ← sh]
      exact fo_congr k (i + 1) _ (fun j h3 _ => by rw [hne j (by omega)])
    · rw [hne i e]
      exact ih (i + 1) _ (by omega) (by omega)
theorem agS_md (h6 : nk ≤ 6) {c : Nat} (hc : c < nk) (l : Nat) : agS (mdR a l c) t nk = agS a t nk + gn a t l c := by
  unfold agS
  refine fo_bumpZ (c := c) (f := uq a t) (g := uq (mdR a l c) t) ?_ (fun j hj => ?_) nk 0 0 (by omega) (by omega)
  · have e : uq (mdR a l c) t c = gq a t l c := by
      unfold uq gq sLk mdR
      rw [pk_us, pk_un (by omega)]
    unfold gn
    omega
  · unfold uq sLk mdR
    rw [pk_un (by omega), pk_un (by omega)]
/-- as far as nobody chosen is looked at, the rows are one -/
def AG (a0 a : Nat → Int32) (nk s : Nat) : Prop := ∀ k, (∀ c, c < nk → s.testBit c = true → k ≠ 27 + 7 * c + 2) → a k = a0 k
theorem AG.gain (hi : Bi a0 nc nr nk nl) {s c : Nat} (h : AG a0 a nk s) (hc : c < nk) (hs : s.testBit c = false) (l : Nat) : gn a t l c = gn a0 t l c := by
  have hn := hi.cnt
  have ne : ∀ k, (k = 27 + 7 * c ∨ k = 27 + 7 * c + 2 ∨ k = 27 + 7 * c + 3 ∨ k < 27) → a k = a0 k := fun k hk => h k (fun c' hc' hs' e => by
    by_cases e2 : c' = c
    · rw [e2, hs] at hs'; cases hs'
    · omega)
  obtain ⟨q, hq, eq⟩ := hi.seat hc
  have e1 : uq a t c = uq a0 t c := by
    unfold uq sLk
    rw [ne _ (by omega), ne _ (by omega)]
  have e2 : gq a t l c = gq a0 t l c := by
    unfold gq sGt sGb
    rw [ne (27 + 7 * c + 2) (by omega), ne (27 + 7 * c + 3) (by omega), ne (27 + 7 * c) (by omega), eq, nI_clamp (by omega), ne (10 + q) (by omega)]
  unfold gn
  rw [e1, e2]
theorem AG.md {s c : Nat} (h : AG a0 a nk s) (hc : c < nk) (l : Nat) : AG a0 (mdR a l c) nk (s ||| 2 ^ c) := by
  intro k hk
  unfold mdR
  rw [pk_un (hk c hc (by rw [or_bit]; simp))]
  exact h k (fun c' hc' hs' => hk c' hc' (by rw [or_bit, hs']; rfl))
/-! what is best so far -/
def vld (nk s e : Nat) : Prop := e ≤ nk ∧ (e = nk ∨ s.testBit e = false)
def vlu (a0 : Nat → Int32) (t : Int32) (nk n : Nat) (K : Int) (j s e : Nat) : Int := K + (if e = nk then Rj a0 t nk n j s else gn a0 t (n - (j + 1)) e + Rj a0 t nk n j (s ||| 2 ^ e))
def bet (l : Nat) (x v : Int) : Prop := (l % 2 = 0 → x ≤ v) ∧ (l % 2 ≠ 0 → v ≤ x)
def Bst (a0 : Nat → Int32) (t : Int32) (nk n : Nat) (K : Int) (j s d : Nat) (G B : Int32) : Prop :=
  (B = (-1 : Int32) ∧ ∀ e, e < d → ¬ vld nk s e) ∨
  (∃ b v, b < d ∧ vld nk s b ∧ B = nI b ∧ G = jI v ∧ vlu a0 t nk n K j s b = v ∧ (∀ e, e < d → vld nk s e → bet (n - (j + 1)) (vlu a0 t nk n K j s e) v) ∧ (∀ e, e < b → vld nk s e → vlu a0 t nk n K j s e ≠ v))
theorem vlu_b (a0 : Nat → Int32) (t : Int32) {nk n j : Nat} (hj : j ≤ 4) {K : Int} (hK : 0 ≤ K ∧ K ≤ 6) (s e : Nat) : -20 ≤ vlu a0 t nk n K j s e ∧ vlu a0 t nk n K j s e ≤ 20 := by
  have h1 := Rj_b a0 t nk n j s
  have h2 := Rj_b a0 t nk n j (s ||| 2 ^ e)
  have h3 := gn_b a0 t (n - (j + 1)) e
  unfold vlu
  split <;> omega
/-- the recursion's value is the best of all -/
theorem Rj_opt (a0 : Nat → Int32) (t : Int32) (nk n j s : Nat) : (∃ e, vld nk s e ∧ vlu a0 t nk n 0 j s e = Rj a0 t nk n (j + 1) s) ∧ ∀ e, vld nk s e → bet (n - (j + 1)) (vlu a0 t nk n 0 j s e) (Rj a0 t nk n (j + 1) s) := by
  have h := fo_ind (fun c b => if s.testBit c = true then b else if (n - (j + 1)) % 2 = 0 then max b (gn a0 t (n - (j + 1)) c + Rj a0 t nk n j (s ||| 2 ^ c)) else min b (gn a0 t (n - (j + 1)) c + Rj a0 t nk n j (s ||| 2 ^ c))) (fun i b => (∃ e, (e < i ∨ e = nk) ∧ vld nk s e ∧ vlu a0 t nk n 0 j s e = b) ∧ ∀ e, (e < i ∨ e = nk) → vld nk s e → bet (n - (j + 1)) (vlu a0 t nk n 0 j s e) b) nk 0 (Rj a0 t nk n j s) ⟨⟨nk, Or.inr rfl, ⟨Nat.le_refl _, Or.inl rfl⟩, by unfold vlu; rw [if_pos rfl]; omega⟩, fun e he _ => by
    have : e = nk := by omega
    unfold vlu bet
    rw [if_pos this]
    omega⟩ (fun c b _ hc hb => by
    obtain ⟨⟨e, h1, h2, h3⟩, h4⟩ := hb
    have hcn : c < nk := by omega
    by_cases hs : s.testBit c = true
    · rw [if_pos hs]
      refine ⟨⟨e, by omega, h2, h3⟩, fun e' he' hv' => ?_⟩
      by_cases e2 : e' = c
      · exfalso
        rcases hv'.2 with z | z
        · omega
        · rw [e2, hs] at z; cases z
      · exact h4 e' (by omega) hv'
    · have hcv : vld nk s c := ⟨by omega, Or.inr (by simpa using hs)⟩
      have ev : vlu a0 t nk n 0 j s c = gn a0 t (n - (j + 1)) c + Rj a0 t nk n j (s ||| 2 ^ c) := by
        unfold vlu
        rw [if_neg (by omega)]
        omega
      rw [if_neg hs, ← ev]
      by_cases hl : (n - (j + 1)) % 2 = 0
      · rw [if_pos hl]
        by_cases hle : b ≤ vlu a0 t nk n 0 j s c
        · rw [Int.max_eq_right hle]
          refine ⟨⟨c, by omega, hcv, rfl⟩, fun e' he' hv' => ?_⟩
          by_cases e2 : e' = c
          · rw [e2]; unfold bet; omega
          · have := h4 e' (by omega) hv'
            unfold bet at this ⊢
            omega
        · rw [Int.max_eq_left (by omega)]
          refine ⟨⟨e, by omega, h2, h3⟩, fun e' he' hv' => ?_⟩
          by_cases e2 : e' = c
          · rw [e2]; unfold bet; omega
          · exact h4 e' (by omega) hv'
      · rw [if_neg hl]
        by_cases hle : vlu a0 t nk n 0 j s c ≤ b
        · rw [Int.min_eq_right hle]
          refine ⟨⟨c, by omega, hcv, rfl⟩, fun e' he' hv' => ?_⟩
          by_cases e2 : e' = c
          · rw [e2]; unfold bet; omega
          · have := h4 e' (by omega) hv'
            unfold bet at this ⊢
            omega
        · rw [Int.min_eq_left (by omega)]
          refine ⟨⟨e, by omega, h2, h3⟩, fun e' he' hv' => ?_⟩
          by_cases e2 : e' = c
          · rw [e2]; unfold bet; omega
          · exact h4 e' (by omega) hv')
  obtain ⟨⟨e, _, h2, h3⟩, h4⟩ := h
  refine ⟨⟨e, h2, h3⟩, fun e' hv' => h4 e' ?_ hv'⟩
  have := hv'.1
  omega
theorem vlu_K (a0 : Nat → Int32) (t : Int32) (nk n : Nat) (K : Int) (j s e : Nat) : vlu a0 t nk n K j s e = K + vlu a0 t nk n 0 j s e := by
  unfold vlu
  omega
theorem Bst.fin {K : Int} {j s : Nat} {G B : Int32} (h : Bst a0 t nk n K j s (nk + 1) G B) : G = jI (K + Rj a0 t nk n (j + 1) s) := by
  obtain ⟨⟨e, h1, h2⟩, h3⟩ := Rj_opt a0 t nk n j s
  rcases h with ⟨_, h⟩ | ⟨b, v, hb, hv, _, rfl, hq, hbet, _⟩
  · exact absurd ⟨Nat.le_refl nk, Or.inl rfl⟩ (h nk (by omega))
  · have q1 := hbet e (by have := h1.1; omega) h1
    have q2 := h3 b hv
    rw [vlu_K] at q1 hq
    rw [h2] at q1
    have : v = K + Rj a0 t nk n (j + 1) s := by
      unfold bet at q1 q2
      by_cases hl : (n - (j + 1)) % 2 = 0
      · have := q1.1 hl
        have := q2.1 hl
        omega
      · have := q1.2 hl
        have := q2.2 hl
        omega
    rw [this]
/-- a deed is settled -/
theorem m_settle (hn4 : n ≤ 4) {j l s c : Nat} (hl : l + (j + 1) = n) {K : Int} (hK : 0 ≤ K ∧ K ≤ 6) (hj : j ≤ 4) {A : Nat → Int32} {S : Int32} {D O G B : Nat → Int32} (hc6 : c ≤ nk ∧ nk ≤ 6) (hD : D l = nI c) (hv : vld nk s c) (hb : Bst a0 t nk n K j s c (G l) (B l)) : ∃ G' B', (∀ i, i < l → G' i = G i ∧ B' i = B i) ∧ Bst a0 t nk n K j s (c + 1) (G' l) (B' l) ∧ F_X11_settles (nI l) (jI (vlu a0 t nk n K j s c)) (Wg m A S D O G B) = some (Wg m A S D O G' B') := by
  have el : n - (j + 1) = l := by omega
  have hvb := vlu_b a0 t (nk := nk) (n := n) hj hK s c
  have s50 : f_X11_settles_50 (nI l) (jI (vlu a0 t nk n K j s c)) (Wg m A S D O G B) = some (Wg m A S D O (upd G l (jI (vlu a0 t nk n K j s c))) (upd B l (nI c))) := by
    unfold f_X11_settles_50
    rw [if_pos (gin_nI (by omega) (by omega)), nI_clamp (by omega), show (Wg m A S D O G B).1 11 l = nI c from hD, gI_WgG, gI_WgB]
  have keep : ∀ i, i < l → upd G l (jI (vlu a0 t nk n K j s c)) i = G i ∧ upd B l (nI c) i = B i := fun i hi => ⟨pk_un (by omega), pk_un (by omega)⟩
  unfold F_X11_settles
  rw [if_pos (gin_nI (by omega) (by omega)), nI_clamp (by omega), show (Wg m A S D O G B).1 14 l = B l from rfl]
  rcases hb with ⟨h1, h2⟩ | ⟨b, v, hbc, hbv, h1, h2, h3, h4, h5⟩
  · refine ⟨_, _, keep, ?_, ?_⟩
    · rw [pk_us, pk_us]
      refine Or.inr ⟨c, _, by omega, hv, rfl, rfl, rfl, fun e he hve => ?_, fun e he hve => absurd hve (h2 e he)⟩
      by_cases e2 : e = c
      · rw [e2]; unfold bet; omega
      · exact absurd hve (h2 e (by omega))
    · rw [if_pos h1]
      unfold f_X11_settles_15
      rw [if_neg one_ne]
      exact s50
  · have hvb2 := vlu_b a0 t (nk := nk) (n := n) hj hK s b
    rw [if_neg (by rw [h1]; exact nI_nm (by have := hbv.1; omega))]
    unfold f_X11_settles_15
    rw [if_pos zer_eq, if_pos (gin_nI (by omega) (by omega)), if_pos (gin_nI (by omega) (by omega)), nI_clamp (by omega), show (Wg m A S D O G B).1 13 l = G l from rfl, h2, s50]
    by_cases ev : l % 2 = 0
    · rw [if_pos (by rw [even_iff (by omega)]; exact ev)]
      by_cases hlt : v < vlu a0 t nk n K j s c
      · refine ⟨_, _, keep, ?_, ?_⟩
        · rw [pk_us, pk_us]
          refine Or.inr ⟨c, _, by omega, hv, rfl, rfl, rfl, fun e he hve => ?_, fun e he hve q => ?_⟩
          · by_cases e2 : e = c
            · rw [e2]; unfold bet; omega
            · have := h4 e (by omega) hve
              unfold bet at this ⊢
              rw [el] at this ⊢
              have := this.1 ev
              omega
          · have := h4 e he hve
            unfold bet at this
            rw [el] at this
            have := this.1 ev
            omega
        · rw [if_pos (by rw [jI_lt (by omega) (by omega)]; exact hlt)]
      · refine ⟨G, B, fun i _ => ⟨rfl, rfl⟩, Or.inr ⟨b, v, by omega, hbv, h1, h2, h3, fun e he hve => ?_, h5⟩, ?_⟩
        · by_cases e2 : e = c
          · rw [e2]; unfold bet; rw [el]; omega
          · exact h4 e (by omega) hve
        · rw [if_neg (by rw [jI_lt (by omega) (by omega)]; exact hlt)]
    · rw [if_neg (by rw [even_iff (by omega)]; exact ev)]
      by_cases hlt : vlu a0 t nk n K j s c < v
      · refine ⟨_, _, keep, ?_, ?_⟩
        · rw [pk_us, pk_us]
          refine Or.inr ⟨c, _, by omega, hv, rfl, rfl, rfl, fun e he hve => ?_, fun e he hve q => ?_⟩
          · by_cases e2 : e = c
            · rw [e2]; unfold bet; omega
            · have := h4 e (by omega) hve
              unfold bet at this ⊢
              rw [el] at this ⊢
              have := this.2 ev
              omega
          · have := h4 e he hve
            unfold bet at this
            rw [el] at this
            have := this.2 ev
            omega
        · rw [if_pos (by rw [jI_lt (by omega) (by omega)]; exact hlt)]
      · refine ⟨G, B, fun i _ => ⟨rfl, rfl⟩, Or.inr ⟨b, v, by omega, hbv, h1, h2, h3, fun e he hve => ?_, h5⟩, ?_⟩
        · by_cases e2 : e = c
          · rw [e2]; unfold bet; rw [el]; omega
          · exact h4 e (by omega) hve
        · rw [if_neg (by rw [jI_lt (by omega) (by omega)]; exact hlt)]
theorem m_asGrey_l (hi : Bi a nc nr nk nl) {r : Nat} (hr : r < nr) {w : GW} (hw : w.1 1 = a) : ∀ k n1 i (s : Int), i + k = nk → k < n1 → f_X11_asGrey_4 w n1 (nI r) (jI s) (nI i) = some (jI (fo (fun c s => s + uq a (a (17 + 2 * r)) c) i k s)) := by
  have hn := hi.cnt
  intro k
  induction k with
  | zero =>
    intro n1 i s e h2
    obtain ⟨n1, rfl⟩ := fu_pos h2
    show b_X11_asGrey_4 _ w (nI r) (jI s) (nI i) = _
    unfold b_X11_asGrey_4
    rw [hw, hi.n2, if_pos (nI_le (by omega) (by omega))]
    rfl
  | succ k ih =>
    intro n1 i s e h2
    obtain ⟨n1, rfl⟩ := fu_pos h2
    show b_X11_asGrey_4 _ w (nI r) (jI s) (nI i) = some (jI (fo _ (i + 1) k (s + uq a (a (17 + 2 * r)) i)))
    unfold b_X11_asGrey_4 f_X11_asGrey_37
    rw [m_looksOf (m := w) (by omega), hw, hi.n2, if_neg (nI_ge (by omega) (by omega)), Option.bind_some, m_rankRow, Option.bind_some, if_pos (gin_nI (by omega) (by omega)), nI_clamp (by omega), nI_1]
    by_cases q : sLk a i < a (17 + 2 * r)
    · have e3 : uq a (a (17 + 2 * r)) i = 0 := if_pos q
      rw [if_pos q, e3, show (0 : Int32) = jI 0 from rfl, jI_add]
      exact ih n1 (i + 1) _ (by omega) (by omega)
    · have e3 : uq a (a (17 + 2 * r)) i = 1 := if_neg q
      rw [if_neg q, e3, show (1 : Int32) = jI 1 from rfl, jI_add]
      exact ih n1 (i + 1) _ (by omega) (by omega)
theorem m_asGrey (hi : Bi a nc nr nk nl) {r : Nat} (hr : r < nr) {w : GW} (hw : w.1 1 = a) : F_X11_asGrey w (nI r) = some (jI (agS a (a (17 + 2 * r)) nk)) := by
  have := hi.cnt
  exact m_asGrey_l hi hr hw nk FU 0 0 (by omega) (by have := FU_big; omega)
end
