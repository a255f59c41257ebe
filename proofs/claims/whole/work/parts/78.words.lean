/-! The words that mean something, as both find them. -/
def lw (B : Nat → Nat) : Nat → Nat → List Nat
  | _, 0 => []
  | s, k + 1 => B s :: lw B (s + 1) k
def wdC : List (List Nat) := [[111, 100, 100, 115], [99, 97, 115, 104], [99, 111, 114, 110, 101, 114], [115, 116, 105, 108, 108], [114, 97, 110, 107], [97, 116], [112, 97, 121], [99, 108, 101, 114, 107], [105, 110], [115, 101, 114, 118, 101, 100], [103, 114, 101, 121], [115, 104, 97, 109], [99, 108, 105, 101, 110, 116], [115, 117, 109], [110, 101, 114, 118, 101], [121, 101, 97, 114], [109, 111, 118, 101], [115, 119, 97, 112], [102, 97, 110], [100, 117, 115, 116], [108, 111, 111, 107], [114, 117, 110], [97, 110, 121], [119, 104, 101, 110], [108, 111, 111, 107, 115], [108, 111, 111, 112], [101, 110, 100], [115, 116, 111, 112]]
def wdK : List (List Nat) := [[111, 100, 100, 115], [99, 97, 115, 104], [99, 111, 114, 110, 101, 114], [114, 97, 110, 107], [99, 108, 101, 114, 107], [99, 108, 105, 101, 110, 116], [115, 116, 105, 108, 108], [97, 116], [112, 97, 121], [105, 110], [115, 101, 114, 118, 101, 100], [103, 114, 101, 121], [115, 104, 97, 109], [115, 117, 109], [110, 101, 114, 118, 101], [121, 101, 97, 114], [109, 111, 118, 101], [115, 119, 97, 112], [102, 97, 110], [100, 117, 115, 116], [108, 111, 111, 107], [114, 117, 110], [97, 110, 121], [119, 104, 101, 110], [108, 111, 111, 112], [101, 110, 100], [115, 116, 111, 112], [108, 111, 111, 107, 115]]
def kfind : List (List Nat) → List Nat → Nat → Int32
  | [], _, _ => -1
  | v :: ws, l, i => if v = l then nI i else kfind ws l (i + 1)
def twW : Nat → List Nat → Bool
  | _, [] => true
  | a, c :: v => decide (txW.getD a 0 = nI c) && decide (97 ≤ c ∧ c ≤ 122) && twW (a + 1) v
def tbW : Nat → List (List Nat) → Bool
  | a, [] => decide (a = 140)
  | a, v :: ws => twW a v && decide (txW.getD (a + v.length) 0 = 32) && decide (a + v.length < 140) && tbW (a + v.length + 1) ws
def twK : Nat → List Nat → Bool
  | _, [] => true
  | a, c :: v => decide (txK.getD a 0 = nI c) && decide (97 ≤ c ∧ c ≤ 122) && twK (a + 1) v
def tbK : Nat → List (List Nat) → Bool
  | a, [] => decide (a = 141)
  | a, v :: ws => twK a v && decide (txK.getD (a + v.length) 0 = 32) && decide (a + v.length < 141) && tbK (a + v.length + 1) ws
theorem tabW : tbW 0 wdC = true := by decide +kernel
theorem tabK : tbK 1 wdK = true := by decide +kernel
def kmap (i : Int32) : Int32 := if i = (0 : Int32) then (0 : Int32) else if i = (1 : Int32) then (1 : Int32) else if i = (2 : Int32) then (2 : Int32) else if i = (3 : Int32) then (6 : Int32) else if i = (4 : Int32) then (3 : Int32) else if i = (5 : Int32) then (7 : Int32) else if i = (6 : Int32) then (8 : Int32) else if i = (7 : Int32) then (4 : Int32) else if i = (8 : Int32) then (9 : Int32) else if i = (9 : Int32) then (10 : Int32) else if i = (10 : Int32) then (11 : Int32) else if i = (11 : Int32) then (12 : Int32) else if i = (12 : Int32) then (5 : Int32) else if i = (13 : Int32) then (13 : Int32) else if i = (14 : Int32) then (14 : Int32) else if i = (15 : Int32) then (15 : Int32) else if i = (16 : Int32) then (16 : Int32) else if i = (17 : Int32) then (17 : Int32) else if i = (18 : Int32) then (18 : Int32) else if i = (19 : Int32) then (19 : Int32) else if i = (20 : Int32) then (20 : Int32) else if i = (21 : Int32) then (21 : Int32) else if i = (22 : Int32) then (22 : Int32) else if i = (23 : Int32) then (23 : Int32) else if i = (24 : Int32) then (27 : Int32) else if i = (25 : Int32) then (24 : Int32) else if i = (26 : Int32) then (25 : Int32) else if i = (27 : Int32) then (26 : Int32) else -1
theorem kfind_no : ∀ (ws : List (List Nat)) (l : List Nat) (i : Nat), l ∉ ws → kfind ws l i = -1
  | [], _, _, _ => rfl
  | v :: ws, l, i, h => by
    show (if v = l then nI i else kfind ws l (i + 1)) = -1
    rw [if_neg (fun e => h (by rw [e]; exact List.mem_cons_self))]
    exact kfind_no ws l (i + 1) (fun q => h (List.mem_cons_of_mem _ q))
theorem kfind_map (l : List Nat) : kfind wdK l 0 = kmap (kfind wdC l 0) := by
  by_cases h : l ∈ wdC
  · have h2 : ∀ q ∈ wdC, kfind wdK q 0 = kmap (kfind wdC q 0) := by decide +kernel
    exact h2 l h
  · have h2 : ∀ q ∈ wdK, q ∈ wdC := by decide +kernel
    rw [kfind_no wdC l 0 h, kfind_no wdK l 0 (fun q => h (h2 l q))]
    decide
section
variable {B : Nat → Nat} {n : Nat} {u m : GW}
theorem lw_len (B : Nat → Nat) : ∀ k s, (lw B s k).length = k
  | 0, _ => rfl
  | k + 1, s => by show (lw B (s + 1) k).length + 1 = k + 1; rw [lw_len B k (s + 1)]
theorem x_written (h : TX u B n) (hB : BT B n) {s e a : Nat} (he : e ≤ n) (hse : s ≤ e) : ∀ (v : List Nat) (j n1 : Nat), twW (a + j) v = true → j + v.length = e - s → a + j + v.length ≤ 140 → v.length < n1 → f_X8_isWritten_3 u n1 (nI s) (nI e) (nI a) (nI j) = some (if lw B (s + j) v.length = v then 1 else 0) := by
  have hb := hB.1
  intro v
  induction v with
  | nil =>
    intro j n1 ht hj ha hn
    obtain ⟨n1, rfl⟩ := fu_pos hn
    have hj2 : j = e - s := hj
    show b_X8_isWritten_3 _ u (nI s) (nI e) (nI a) (nI j) = _
    unfold b_X8_isWritten_3
    rw [nI_sub hse, if_pos (nI_le (by omega) (by omega))]
    rfl
  | cons c v ih =>
    intro j n1 ht hj ha hn
    obtain ⟨n1, rfl⟩ := fu_pos (show 0 < n1 by omega)
    have hj2 : j + (v.length + 1) = e - s := hj
    have ha2 : a + j + (v.length + 1) ≤ 140 := ha
    have hn2 : v.length + 1 < n1 + 1 := hn
    have ht2 : (decide (txW.getD (a + j) 0 = nI c) && decide (97 ≤ c ∧ c ≤ 122) && twW (a + j + 1) v) = true := ht
    rw [Bool.and_eq_true, Bool.and_eq_true] at ht2
    obtain ⟨⟨t1, t2⟩, t3⟩ := ht2
    have t1 := of_decide_eq_true t1
    have t2 := of_decide_eq_true t2
    show b_X8_isWritten_3 _ u (nI s) (nI e) (nI a) (nI j) = _
    unfold b_X8_isWritten_3
    rw [nI_sub hse, if_neg (nI_ge (by omega) (by omega)), nI_add, if_neg (nI_geL (by show a + j < 140; omega) (by omega)), if_pos (gin_nI (by omega) (by omega)), nI_clamp (n := a + j) (by omega), nI_add, x_byte h hB (k := s + j) (by omega), Option.bind_some, t1, nI_1]
    have hbb := hB.2.1 (s + j) (by omega)
    have e1 : (nI c = sg (B (s + j))) = (B (s + j) = c) := by rw [show (nI c = sg (B (s + j))) = (sg (B (s + j)) = nI c) from propext eq_comm, sg_eq hbb (by omega)]
    show _ = some (if (B (s + j) :: lw B (s + j + 1) v.length) = c :: v then 1 else 0)
    by_cases q : B (s + j) = c
    · rw [if_pos (e1 ▸ q), ih (j + 1) n1 t3 (by omega) (by omega) (by omega), show s + (j + 1) = s + j + 1 by omega]
      by_cases q2 : lw B (s + j + 1) v.length = v
      · rw [if_pos q2, if_pos (by rw [q2, q])]
      · rw [if_neg q2, if_neg (fun z => q2 (List.cons.inj z).2)]
    · rw [if_neg (e1 ▸ q), if_neg (fun z => q (List.cons.inj z).1)]
theorem x_kw_run {s e i a : Nat} : ∀ (v : List Nat) (j n1 : Nat), twW (a + j) v = true → a + j + v.length < 140 → f_X8_knownWord_8 u (n1 + v.length) (nI s) (nI e) (nI i) (nI a) (nI (a + j)) = f_X8_knownWord_8 u n1 (nI s) (nI e) (nI i) (nI a) (nI (a + j + v.length)) := by
  intro v
  induction v with
  | nil => intro j n1 _ _; rfl
  | cons c v ih =>
    intro j n1 ht ha
    have ha2 : a + j + (v.length + 1) < 140 := ha
    have ht2 : (decide (txW.getD (a + j) 0 = nI c) && decide (97 ≤ c ∧ c ≤ 122) && twW (a + j + 1) v) = true := ht
    rw [Bool.and_eq_true, Bool.and_eq_true] at ht2
    obtain ⟨⟨t1, t2⟩, t3⟩ := ht2
    have t1 := of_decide_eq_true t1
    have t2 := of_decide_eq_true t2
    have hi := ih (j + 1) n1 t3 (by omega)
    show f_X8_knownWord_8 u (n1 + (v.length + 1)) _ _ _ _ _ = f_X8_knownWord_8 u n1 _ _ _ _ (nI (a + j + (v.length + 1)))
    rw [show n1 + (v.length + 1) = n1 + v.length + 1 by omega]
    show b_X8_knownWord_8 _ u (nI s) (nI e) (nI i) (nI a) (nI (a + j)) = _
    unfold b_X8_knownWord_8 f_X8_knownWord_63
    rw [if_neg (nI_geL (by show a + j < 140; omega) (by omega)), if_pos (gin_nI (by omega) (by omega)), nI_clamp (n := a + j) (by omega), t1, if_neg (nI_neL (by show c ≠ 32; omega) (by omega) (by omega)), nI_1, show a + j + 1 = a + (j + 1) by omega, hi, show a + (j + 1) + v.length = a + j + (v.length + 1) by omega]
theorem x_kw_step (h : TX u B n) (hB : BT B n) {s e a i : Nat} (he : e ≤ n) (hse : s ≤ e) {v : List Nat} (ht : twW a v = true) (h32 : txW.getD (a + v.length) 0 = 32) (ha : a + v.length < 140) (hi : i < 1000) (n1 : Nat) : f_X8_knownWord_8 u (n1 + 1 + v.length) (nI s) (nI e) (nI i) (nI a) (nI a) = if v = lw B s (e - s) then some (nI i) else f_X8_knownWord_8 u n1 (nI s) (nI e) (nI (i + 1)) (nI (a + v.length + 1)) (nI (a + v.length + 1)) := by
  have hb := hB.1
  have h1 := x_kw_run (u := u) (s := s) (e := e) (i := i) (a := a) v 0 (n1 + 1) ht ha
  rw [show a + 0 = a from rfl] at h1
  rw [h1]
  show b_X8_knownWord_8 _ u (nI s) (nI e) (nI i) (nI a) (nI (a + v.length)) = _
  unfold b_X8_knownWord_8 f_X8_knownWord_54 f_X8_knownWord_63
  rw [if_neg (nI_geL (by show a + v.length < 140; omega) (by omega)), if_pos (gin_nI (by omega) (by omega)), nI_clamp (n := a + v.length) (by omega), if_pos h32, nI_sub (show a ≤ a + v.length by omega), nI_sub hse, show a + v.length - a = v.length by omega, nI_1, nI_1]
  by_cases q : v.length = e - s
  · rw [if_pos (by rw [q])]
    have h2 := x_written h hB he hse (a := a) v 0 FU ht (by omega) (by omega) (by have := FU_big; omega)
    unfold F_X8_isWritten
    rw [show f_X8_isWritten_3 u FU (nI s) (nI e) (nI a) 0 = _ from h2, Option.bind_some, ite01, Nat.add_zero, q]
    by_cases q2 : lw B s (e - s) = v
    · rw [if_pos q2, if_pos q2.symm]
    · rw [if_neg q2, if_neg (fun z => q2 z.symm)]
  · rw [if_neg (fun z => q ((nI_eq (by omega) (by omega)).mp z)), if_neg (fun z => q (by rw [z, lw_len]))]
theorem x_kw_l (h : TX u B n) (hB : BT B n) {s e : Nat} (he : e ≤ n) (hse : s ≤ e) : ∀ (ws : List (List Nat)) (a i n1 : Nat), tbW a ws = true → i + ws.length < 1000 → 142 < n1 + a → f_X8_knownWord_8 u n1 (nI s) (nI e) (nI i) (nI a) (nI a) = some (kfind ws (lw B s (e - s)) i) := by
  intro ws
  induction ws with
  | nil =>
    intro a i n1 ht hi hn
    have ha := of_decide_eq_true (show decide (a = 140) = true from ht)
    obtain ⟨n1, rfl⟩ := fu_pos (show 0 < n1 by omega)
    show b_X8_knownWord_8 _ u (nI s) (nI e) (nI i) (nI a) (nI a) = _
    unfold b_X8_knownWord_8
    rw [if_pos (nI_leL (by show 140 ≤ a; omega) (by omega))]
    rfl
  | cons v ws ih =>
    intro a i n1 ht hi hn
    have ht2 : (twW a v && decide (txW.getD (a + v.length) 0 = 32) && decide (a + v.length < 140) && tbW (a + v.length + 1) ws) = true := ht
    rw [Bool.and_eq_true, Bool.and_eq_true, Bool.and_eq_true] at ht2
    obtain ⟨⟨⟨t1, t2⟩, t3⟩, t4⟩ := ht2
    have t2 := of_decide_eq_true t2
    have t3 := of_decide_eq_true t3
    have hi2 : i + (ws.length + 1) < 1000 := hi
    rw [show n1 = (n1 - v.length - 1) + 1 + v.length by omega, x_kw_step h hB he hse t1 t2 t3 (by omega), ih (a + v.length + 1) (i + 1) _ t4 (by omega) (by omega)]
    show _ = some (if v = lw B s (e - s) then nI i else kfind ws (lw B s (e - s)) (i + 1))
    by_cases q : v = lw B s (e - s)
    · rw [if_pos q, if_pos q]
    · rw [if_neg q, if_neg q]
theorem x_known (h : TX u B n) (hB : BT B n) {s e : Nat} (he : e ≤ n) (hse : s ≤ e) : F_X8_knownWord u (nI s) (nI e) = some (kfind wdC (lw B s (e - s)) 0) :=
  x_kw_l h hB he hse wdC 0 0 FU tabW (by decide) (by have := FU_big; omega)
theorem m_kw_run {k14 : Int32 → Int32 → Option Int32} {i a : Nat} : ∀ (v : List Nat) (j n1 : Nat), twK (a + j) v = true → a + j + v.length < 141 → f_X11_inWords_25 k14 m (n1 + v.length) (nI i) (nI a) (nI (a + j)) = f_X11_inWords_25 k14 m n1 (nI i) (nI a) (nI (a + j + v.length)) := by
  intro v
  induction v with
  | nil => intro j n1 _ _; rfl
  | cons c v ih =>
    intro j n1 ht ha
    have ha2 : a + j + (v.length + 1) < 141 := ha
    have ht2 : (decide (txK.getD (a + j) 0 = nI c) && decide (97 ≤ c ∧ c ≤ 122) && twK (a + j + 1) v) = true := ht
    rw [Bool.and_eq_true, Bool.and_eq_true] at ht2
    obtain ⟨⟨t1, t2⟩, t3⟩ := ht2
    have t1 := of_decide_eq_true t1
    have t2 := of_decide_eq_true t2
    have hi := ih (j + 1) n1 t3 (by omega)
    show f_X11_inWords_25 k14 m (n1 + (v.length + 1)) _ _ _ = f_X11_inWords_25 k14 m n1 _ _ (nI (a + j + (v.length + 1)))
    rw [show n1 + (v.length + 1) = n1 + v.length + 1 by omega]
    show b_X11_inWords_25 k14 _ m (nI i) (nI a) (nI (a + j)) = _
    unfold b_X11_inWords_25
    rw [if_pos (gin_nI (by omega) (by omega)), nI_clamp (n := a + j) (by omega), t1, if_neg (nI_neL (by show c ≠ 32; omega) (by omega) (by omega)), nI_1, show a + j + 1 = a + (j + 1) by omega, hi, show a + (j + 1) + v.length = a + j + (v.length + 1) by omega]
/-- the reference compares a word with what is ahead -/
theorem m_kw_cmp (h : TM m B n) (hB : BT B n) {k14 : Int32 → Int32 → Option Int32} {s i a L : Nat} (h13 : m.1 0 13 = nI s) (hL : a + L < 141) (hs : s + L ≤ n) : ∀ (v : List Nat) (j n1 : Nat), twK (a + j) v = true → j + v.length = L → v.length + 1 < n1 → f_X11_inWords_68 k14 m n1 (nI i) (nI a) (nI (a + L)) (1 : Int32) (nI (a + j)) = if lw B (s + j) v.length = v then some (nI i) else k14 (nI (i + 1)) (nI (a + L + 1)) := by
  have hb := hB.1
  intro v
  induction v with
  | nil =>
    intro j n1 ht hj hn
    obtain ⟨n1, rfl⟩ := fu_pos hn
    have hj2 : j = L := hj
    show b_X11_inWords_68 k14 _ m (nI i) (nI a) (nI (a + L)) (1 : Int32) (nI (a + j)) = _
    unfold b_X11_inWords_68 f_X11_inWords_115
    rw [if_pos (nI_le (by omega) (by omega)), if_neg one_ne]
    rfl
  | cons c v ih =>
    intro j n1 ht hj hn
    have hj2 : j + (v.length + 1) = L := hj
    have hn2 : v.length + 1 + 1 < n1 := hn
    obtain ⟨n1, rfl⟩ := fu_pos (show 0 < n1 by omega)
    have ht2 : (decide (txK.getD (a + j) 0 = nI c) && decide (97 ≤ c ∧ c ≤ 122) && twK (a + j + 1) v) = true := ht
    rw [Bool.and_eq_true, Bool.and_eq_true] at ht2
    obtain ⟨⟨t1, t2⟩, t3⟩ := ht2
    have t1 := of_decide_eq_true t1
    have t2 := of_decide_eq_true t2
    have hbb := hB.2.1 (s + j) (by omega)
    show b_X11_inWords_68 k14 _ m (nI i) (nI a) (nI (a + L)) (1 : Int32) (nI (a + j)) = if B (s + j) :: lw B (s + j + 1) v.length = c :: v then _ else _
    unfold b_X11_inWords_68 f_X11_inWords_107
    rw [if_neg (nI_ge (by omega) (by omega)), if_neg one_ne, if_pos (gin_nI (by omega) (by omega)), h13, nI_add, nI_sub (show a ≤ s + (a + j) by omega), show s + (a + j) - a = s + j by omega, m_byte h hB (by omega), Option.bind_some, nI_clamp (n := a + j) (by omega), t1, nI_1]
    by_cases q : B (s + j) = c
    · rw [if_pos (by rw [q]), show a + j + 1 = a + (j + 1) by omega, ih (j + 1) n1 t3 (by omega) (by omega), show s + (j + 1) = s + j + 1 by omega]
      by_cases q2 : lw B (s + j + 1) v.length = v
      · rw [if_pos q2, if_pos (by rw [q2, q])]
      · rw [if_neg q2, if_neg (fun z => q2 (List.cons.inj z).2)]
    · rw [if_neg (fun z => q ((nI_eq (by omega) (by omega)).mp z).symm), if_neg (fun z => q (List.cons.inj z).1)]
      obtain ⟨n1, rfl⟩ := fu_pos (show 0 < n1 by omega)
      show b_X11_inWords_68 k14 _ m (nI i) (nI a) (nI (a + L)) (0 : Int32) (nI (a + j + 1)) = _
      unfold b_X11_inWords_68 f_X11_inWords_115
      rw [if_pos zer_eq, if_pos zer_eq, ite_self, nI_1, nI_1]
theorem m_kw_step (h : TM m B n) (hB : BT B n) {s e a i : Nat} (h13 : m.1 0 13 = nI s) (h14 : m.1 0 14 = nI e) (he : e ≤ n) (hse : s ≤ e) {v : List Nat} (ht : twK a v = true) (h32 : txK.getD (a + v.length) 0 = 32) (ha : a + v.length < 141) (n1 : Nat) : f_X11_inWords_14 m (n1 + 1) (nI i) (nI a) = if v = lw B s (e - s) then some (nI i) else f_X11_inWords_14 m n1 (nI (i + 1)) (nI (a + v.length + 1)) := by
  have hb := hB.1
  have hF := FU_big
  show b_X11_inWords_14 _ m (nI i) (nI a) = _
  unfold b_X11_inWords_14
  have h1 := m_kw_run (m := m) (k14 := f_X11_inWords_14 m n1) (i := i) (a := a) v 0 (FU - v.length - 1 + 1) ht ha
  rw [show a + 0 = a from rfl, show FU - v.length - 1 + 1 + v.length = FU by omega] at h1
  rw [if_neg (nI_geL (by show a < 141; omega) (by omega)), h1]
  show b_X11_inWords_25 _ _ m (nI i) (nI a) (nI (a + v.length)) = _
  unfold b_X11_inWords_25 f_X11_inWords_63
  rw [if_pos (gin_nI (by omega) (by omega)), nI_clamp (n := a + v.length) (by omega), if_pos h32, nI_sub (show a ≤ a + v.length by omega), h13, h14, nI_sub hse, show a + v.length - a = v.length by omega]
  by_cases q : v.length = e - s
  · have h2 := m_kw_cmp h hB (k14 := f_X11_inWords_14 m n1) (s := s) (i := i) (a := a) (L := v.length) h13 ha (by omega) v 0 FU ht (by omega) (by omega)
    rw [show a + 0 = a from rfl, show s + 0 = s from rfl] at h2
    rw [if_pos (by rw [q]), h2, ← q]
    by_cases q2 : lw B s v.length = v
    · rw [if_pos q2, if_pos q2.symm]
    · rw [if_neg q2, if_neg (fun z => q2 z.symm)]
  · rw [if_neg (fun z => q ((nI_eq (by omega) (by omega)).mp z)), if_neg (fun z => q (by rw [z, lw_len]))]
    obtain ⟨F, hF2⟩ := fu_pos hF
    rw [hF2]
    show b_X11_inWords_68 _ _ m (nI i) (nI a) (nI (a + v.length)) (0 : Int32) (nI a) = _
    unfold b_X11_inWords_68 f_X11_inWords_115
    rw [if_pos zer_eq, if_pos zer_eq, ite_self, nI_1, nI_1]
theorem m_kw_l (h : TM m B n) (hB : BT B n) {s e : Nat} (h13 : m.1 0 13 = nI s) (h14 : m.1 0 14 = nI e) (he : e ≤ n) (hse : s ≤ e) : ∀ (ws : List (List Nat)) (a i n1 : Nat), tbK a ws = true → ws.length < n1 → f_X11_inWords_14 m n1 (nI i) (nI a) = some (kfind ws (lw B s (e - s)) i) := by
  intro ws
  induction ws with
  | nil =>
    intro a i n1 ht hn
    have ha := of_decide_eq_true (show decide (a = 141) = true from ht)
    obtain ⟨n1, rfl⟩ := fu_pos hn
    show b_X11_inWords_14 _ m (nI i) (nI a) = _
    unfold b_X11_inWords_14
    rw [if_pos (nI_leL (by show 141 ≤ a; omega) (by omega))]
    rfl
  | cons v ws ih =>
    intro a i n1 ht hn
    obtain ⟨n1, rfl⟩ := fu_pos (show 0 < n1 by omega)
    have hn2 : ws.length + 1 < n1 + 1 := hn
    have ht2 : (twK a v && decide (txK.getD (a + v.length) 0 = 32) && decide (a + v.length < 141) && tbK (a + v.length + 1) ws) = true := ht
    rw [Bool.and_eq_true, Bool.and_eq_true, Bool.and_eq_true] at ht2
    obtain ⟨⟨⟨t1, t2⟩, t3⟩, t4⟩ := ht2
    have t2 := of_decide_eq_true t2
    have t3 := of_decide_eq_true t3
    rw [m_kw_step h hB h13 h14 he hse t1 t2 t3, ih (a + v.length + 1) (i + 1) _ t4 (by omega)]
    show _ = some (if v = lw B s (e - s) then nI i else kfind ws (lw B s (e - s)) (i + 1))
    by_cases q : v = lw B s (e - s)
    · rw [if_pos q, if_pos q]
    · rw [if_neg q, if_neg q]
theorem m_known (h : TM m B n) (hB : BT B n) {s e : Nat} (h12 : m.1 0 12 = (2 : Int32)) (h13 : m.1 0 13 = nI s) (h14 : m.1 0 14 = nI e) (he : e ≤ n) (hse : s ≤ e) : F_X11_inWords m = some (kmap (kfind wdC (lw B s (e - s)) 0)) := by
  unfold F_X11_inWords
  rw [if_pos h12, ← kfind_map]
  exact m_kw_l h hB h13 h14 he hse wdK 1 0 FU tabK (by have := FU_big; show 28 < FU; omega)
end
