/-! Names of letters, as both keep them. -/
def okN (l : List Nat) : Prop := ∀ c ∈ l, 1 ≤ c ∧ c ≤ 26
theorem nmC_inj : ∀ l l' : List Nat, okN l → okN l' → nmC l = nmC l' → l = l'
  | [], [], _, _, _ => rfl
  | [], c :: l', _, h', e => by
    have h := h' c List.mem_cons_self
    have e2 : 0 = nmC l' * 32 + c := e
    omega
  | c :: l, [], h', _, e => by
    have h := h' c List.mem_cons_self
    have e2 : nmC l * 32 + c = 0 := e
    omega
  | c :: l, d :: l', h, h', e => by
    have h1 := h c List.mem_cons_self
    have h2 := h' d List.mem_cons_self
    have e2 : nmC l * 32 + c = nmC l' * 32 + d := e
    have e3 : c = d := by omega
    have e4 : nmC l = nmC l' := by omega
    rw [e3, nmC_inj l l' (fun q hq => h q (List.mem_cons_of_mem _ hq)) (fun q hq => h' q (List.mem_cons_of_mem _ hq)) e4]
theorem nmM_inj : ∀ l l' : List Nat, okN l → okN l' → nmM l = nmM l' → l = l'
  | [], [], _, _, _ => rfl
  | [], c :: l', _, h', e => by
    have h := h' c List.mem_cons_self
    have e2 : 0 = nmM l' * 256 + (c + 96) := e
    omega
  | c :: l, [], h', _, e => by
    have h := h' c List.mem_cons_self
    have e2 : nmM l * 256 + (c + 96) = 0 := e
    omega
  | c :: l, d :: l', h, h', e => by
    have h1 := h c List.mem_cons_self
    have h2 := h' d List.mem_cons_self
    have e2 : nmM l * 256 + (c + 96) = nmM l' * 256 + (d + 96) := e
    have e3 : c = d := by omega
    have e4 : nmM l = nmM l' := by omega
    rw [e3, nmM_inj l l' (fun q hq => h q (List.mem_cons_of_mem _ hq)) (fun q hq => h' q (List.mem_cons_of_mem _ hq)) e4]
theorem nmC_lt : ∀ l : List Nat, okN l → nmC l + 1 ≤ 32 ^ l.length
  | [], _ => by decide
  | c :: l, h => by
    have h1 := h c List.mem_cons_self
    have h2 := nmC_lt l (fun q hq => h q (List.mem_cons_of_mem _ hq))
    show nmC l * 32 + c + 1 ≤ 32 ^ (l.length + 1)
    rw [Nat.pow_succ]
    omega
theorem nmM_lt : ∀ l : List Nat, okN l → 2 * nmM l + 1 ≤ 256 ^ l.length
  | [], _ => by decide
  | c :: l, h => by
    have h1 := h c List.mem_cons_self
    have h2 := nmM_lt l (fun q hq => h q (List.mem_cons_of_mem _ hq))
    show 2 * (nmM l * 256 + (c + 96)) + 1 ≤ 256 ^ (l.length + 1)
    rw [Nat.pow_succ]
    omega
theorem nmC_63 {l : List Nat} (h : okN l) (h8 : l.length ≤ 8) : nmC l < 2 ^ 63 := by
  have h1 := nmC_lt l h
  have h2 : (32 : Nat) ^ l.length ≤ 32 ^ 8 := Nat.pow_le_pow_right (by omega) h8
  have h3 : (32 : Nat) ^ 8 < 2 ^ 63 := by decide
  omega
theorem nmM_63 {l : List Nat} (h : okN l) (h8 : l.length ≤ 8) : nmM l < 2 ^ 63 := by
  have h1 := nmM_lt l h
  have h2 : (256 : Nat) ^ l.length ≤ 256 ^ 8 := Nat.pow_le_pow_right (by omega) h8
  have h3 : (256 : Nat) ^ 8 = 2 * 2 ^ 63 := by decide
  omega
theorem nmR_eq {x y x' y' : Int64} (h : nmR x y) (h' : nmR x' y') : (x = x') ↔ (y = y') := by
  obtain ⟨l, h1, h2, h3, h4⟩ := h
  obtain ⟨l', h1', h2', h3', h4'⟩ := h'
  rw [h3, h4, h3', h4']
  constructor
  · intro e
    have e2 : nmC l = nmC l' := (pk_lEQ (nmC_63 h2 h1) (nmC_63 h2' h1')).mp e
    rw [nmC_inj l l' h2 h2' e2]
  · intro e
    have e2 : nmM l = nmM l' := (pk_lEQ (nmM_63 h2 h1) (nmM_63 h2' h1')).mp e
    rw [nmM_inj l l' h2 h2' e2]
theorem lN_pack {x b : Nat} (hx : x < 2 ^ 55) (hb : b < 256) : (lN x <<< ((8 : Int32).toInt64 &&& 63)) ||| (nI b).toInt64 = lN (x * 256 + b) := by
  rw [nI_l (by omega), show (8 : Int32).toInt64 &&& 63 = (8 : Int64) by decide]
  apply Int64.toBitVec_inj.1
  show (BitVec.ofNat 64 x <<< ((8 : Int64).toBitVec.smod 64)) ||| BitVec.ofNat 64 b = BitVec.ofNat 64 (x * 256 + b)
  rw [show (8 : Int64).toBitVec.smod 64 = 8#64 by decide]
  apply BitVec.eq_of_toNat_eq
  rw [BitVec.toNat_or, BitVec.shiftLeft_eq', BitVec.toNat_shiftLeft, BitVec.toNat_ofNat, BitVec.toNat_ofNat, BitVec.toNat_ofNat, show 8 % 2 ^ 64 = 8 by decide, BitVec.toNat_ofNat]
  have e1 : x % 2 ^ 64 = x := Nat.mod_eq_of_lt (by omega)
  have e2 : b % 2 ^ 64 = b := Nat.mod_eq_of_lt (by omega)
  have e3 : x <<< 8 = x * 256 := Nat.shiftLeft_eq x 8
  have e4 : (x * 256) % 2 ^ 64 = x * 256 := Nat.mod_eq_of_lt (by omega)
  have e5 : (x * 256 + b) % 2 ^ 64 = x * 256 + b := Nat.mod_eq_of_lt (by omega)
  rw [e1, e2, e3, e4, e5, ← e3]
  exact (Nat.shiftLeft_add_eq_or_of_lt (i := 8) (by omega) x).symm
section
variable {B : Nat → Nat} {n T i : Nat} {u m : GW}
/-- what the reference's name of the token is -/
def tNm (B : Nat → Nat) (p : Nat) : Int64 := lN (nmM (nl B (tS B p) (tL B p)))
theorem nl_len (B : Nat → Nat) (s : Nat) : ∀ k, (nl B s k).length = k
  | 0 => rfl
  | k + 1 => by show (nl B s k).length + 1 = k + 1; rw [nl_len B s k]
theorem nl_ok {s : Nat} : ∀ k, (∀ j, j < k → isL (B (s + j)) = true) → okN (nl B s k)
  | 0, _ => fun c hc => absurd hc List.not_mem_nil
  | k + 1, h => by
    intro c hc
    rcases List.mem_cons.mp hc with e | e
    · have h1 := isL_lt (h k (by omega))
      omega
    · exact nl_ok k (fun j hj => h j (by omega)) c e
theorem tE_word {p : Nat} (h : mK B p = 2) : isL (B (tS B p)) = true ∧ tE B p = ru isL B (tS B p) := by
  have q : isL (B (tS B p)) = true := by
    by_cases q : isL (B (tS B p)) = true
    · exact q
    · unfold mK at h
      rw [if_neg q] at h
      exfalso
      by_cases q2 : isD (B (tS B p)) = true
      · rw [if_pos q2] at h
        by_cases q3 : 4 < tL B p
        · rw [if_pos q3] at h; exact absurd h (by decide)
        · rw [if_neg q3] at h; exact absurd h (by decide)
      · rw [if_neg q2] at h
        by_cases q3 : isS (B (tS B p)) = true
        · rw [if_pos q3] at h; exact absurd h (by decide)
        · rw [if_neg q3] at h
          by_cases q4 : B (tS B p) = 256
          · rw [if_pos q4] at h; exact absurd h (by decide)
          · rw [if_neg q4] at h; exact absurd h (by decide)
  refine ⟨q, ?_⟩
  unfold tE
  rw [if_pos q]
theorem tL_all {p j : Nat} (h : mK B p = 2) (hj : j < tL B p) : isL (B (tS B p + j)) = true := by
  obtain ⟨h1, h2⟩ := tE_word h
  have h3 : tS B p ≤ ru isL B (tS B p) := ru_ge _
  unfold tL at hj
  rw [h2] at hj
  exact ru_all (k := tS B p) (by omega) (by omega)
theorem t_name {p : Nat} (h : tK B p = 2) : nmR (tV B p) (tNm B p) ∧ mK B p = 2 ∧ tL B p ≤ 8 := by
  rcases kinds B p with z | z | z | z | z | z | z
  · rw [z.1] at h; exact absurd h (by decide)
  · rw [z.1] at h; exact absurd h (by decide)
  · obtain ⟨z1, z2, z3, z4, z5⟩ := z
    refine ⟨⟨nl B (tS B p) (tL B p), by rw [nl_len]; exact z4, nl_ok _ (fun j hj => tL_all z2 hj), z5, rfl⟩, z2, z4⟩
  · rw [z.1] at h; exact absurd h (by decide)
  · rw [z.1] at h; exact absurd h (by decide)
  · rw [z.1] at h; exact absurd h (by decide)
  · rw [z.1] at h; exact absurd h (by decide)
theorem m_name_l (hB : BT B n) (h : TM m B n) {s e : Nat} (h14 : m.1 0 14 = nI e) (he : e ≤ n) (hL : ∀ j, s ≤ j → j < e → isL (B j) = true) (h8 : e ≤ s + 8) : ∀ (j k n1 : Nat), k + j = e → s ≤ k → j < n1 → f_X11_nameHere_7 m n1 (lN (nmM (nl B s (k - s)))) (nI k) = some (lN (nmM (nl B s (e - s)))) := by
  have hb := hB.1
  intro j
  induction j with
  | zero =>
    intro k n1 hj hs hn
    obtain ⟨n1, rfl⟩ := fu_pos hn
    show b_X11_nameHere_7 _ m _ (nI k) = _
    unfold b_X11_nameHere_7
    rw [h14, if_pos (nI_le (by omega) (by omega)), show k = e by omega]
  | succ j ih =>
    intro k n1 hj hs hn
    obtain ⟨n1, rfl⟩ := fu_pos (show 0 < n1 by omega)
    have hk := isL_lt (hL k hs (by omega))
    have ho : okN (nl B s (k - s)) := nl_ok _ (fun q hq => hL (s + q) (by omega) (by omega))
    have h1 := nmM_lt _ ho
    rw [nl_len] at h1
    have h2 : (256 : Nat) ^ (k - s) ≤ 256 ^ 7 := Nat.pow_le_pow_right (by omega) (by omega)
    have h3 : (256 : Nat) ^ 7 = 2 * 2 ^ 55 := by decide
    show b_X11_nameHere_7 _ m _ (nI k) = _
    unfold b_X11_nameHere_7
    rw [h14, if_neg (nI_ge (by omega) (by omega)), m_byte h hB (by omega), Option.bind_some, lN_pack (by omega) (by omega), nI_1, ← ih (k + 1) n1 (by omega) (by omega) (by omega), show k + 1 - s = (k - s) + 1 by omega]
    show _ = f_X11_nameHere_7 m n1 (lN (nmM (nl B s (k - s)) * 256 + (B (s + (k - s)) - 96 + 96))) _
    rw [show s + (k - s) = k by omega, show B k - 96 + 96 = B k by omega]
theorem y_nameHere (h : SY u m B n T i) (hk : tK B (tp B i) = 2) : F_X11_nameHere m = some (tNm B (tp B i)) := by
  obtain ⟨⟨a1, a2, a3, a4⟩, _, _, ⟨d1, d2, d3, d4, d5⟩, _⟩ := h
  obtain ⟨_, z2, z3⟩ := t_name hk
  have hse : tS B (tp B i) ≤ tE B (tp B i) := by rw [(tE_word z2).2]; exact ru_ge _
  unfold F_X11_nameHere tNm tL
  rw [d2]
  have := m_name_l a1 a3 (s := tS B (tp B i)) (d3 (by rw [z2]; decide)) (tE_le a1 (tp_le a1 i)) (fun j h1 h2 => by
    rw [(tE_word z2).2] at h2
    exact ru_all h1 h2) (by unfold tL at z3; omega) (tE B (tp B i) - tS B (tp B i)) (tS B (tp B i)) FU (by omega) (by omega) (by have := FU_big; have := a1.1; have := tE_le a1 (tp_le a1 i); omega)
  rw [Nat.sub_self] at this
  exact this
theorem m_isName (h : SY u m B n T i) : F_X11_isName m = some (if tK B (tp B i) = 2 then 1 else 0) := by
  have hw := y_inw h
  obtain ⟨⟨a1, a2, a3, a4⟩, _, ⟨c1, c2, c3, c4, c5⟩, ⟨d1, d2, d3, d4, d5⟩, _⟩ := h
  have he := tE_le a1 (tp_le a1 i)
  have hn := a1.1
  have no : mK B (tp B i) ≠ 2 → tK B (tp B i) ≠ 2 → F_X11_isName m = some (if tK B (tp B i) = 2 then 1 else 0) := by
    intro h1 h2
    unfold F_X11_isName
    rw [d1, if_neg h1, if_neg h2]
  have len : mK B (tp B i) = 2 → m.1 0 14 - m.1 0 13 = nI (tL B (tp B i)) := by
    intro h1
    rw [d3 (by rw [h1]; decide), d2]
    exact nI_sub (by rw [(tE_word h1).2]; exact ru_ge _)
  have hl : tL B (tp B i) < 2000 := by unfold tL; omega
  rcases kinds B (tp B i) with z | z | z | z | z | z | z
  · exact no (by rw [z.2]; decide) (by rw [z.1]; decide)
  · unfold F_X11_isName
    rw [d1, if_pos z.2.1, len z.2.1, hw.1, Option.bind_some, z.1, if_neg (show ¬ (1 : Int32) = 2 by decide)]
    by_cases q : 8 < tL B (tp B i)
    · rw [if_pos (nI_gtL (by omega) (by omega))]
    · rw [if_neg (nI_ngtL (by omega) (by omega)), if_neg]
      rw [c5, z.1, if_pos rfl]
      rcases tW_nn B (tp B i) with y | ⟨k, y1, y2⟩
      · exact absurd y z.2.2
      · rw [y2]
        intro e
        exact kmap_no ⟨k, y1⟩ (by rw [show kmap (-1) = -1 by decide]; exact e.symm)
  · obtain ⟨z1, z2, z3, z4, _⟩ := z
    unfold F_X11_isName
    rw [d1, if_pos z2, len z2, hw.1, Option.bind_some, z1, if_pos rfl, if_neg (nI_ngtL (by omega) (by omega)), c5, z1, if_neg (show ¬ (2 : Int32) = 1 by decide), if_pos (show kmap (-1) = -1 by decide)]
  · obtain ⟨z1, z2, z3, z4⟩ := z
    unfold F_X11_isName
    rw [d1, if_pos z2, len z2, z1, if_neg (show ¬ (5 : Int32) = 2 by decide), if_pos (nI_gtL (by omega) (by omega))]
  · exact no (by rw [z.2.1]; decide) (by rw [z.1]; decide)
  · exact no (by rw [z.2.1]; decide) (by rw [z.1]; decide)
  · exact no (by rw [z.2]; decide) (by rw [z.1]; decide)
theorem x_named_l {w : GW} {nk : Nat} (x : Int64) (hn2 : w.1 0 5 = nI nk) (h6 : nk ≤ 6) : ∀ k n1 i, i + k = nk → k < n1 → f_X0_clerkNamed_2 w n1 x (nI i) = some (fi (fun c => w.2 4 c = x) i k) := by
  intro k
  induction k with
  | zero =>
    intro n1 i e hn
    obtain ⟨n1, rfl⟩ := fu_pos hn
    show b_X0_clerkNamed_2 _ w x (nI i) = _
    unfold b_X0_clerkNamed_2
    rw [hn2, if_pos (nI_le (by omega) (by omega))]
    rfl
  | succ k ih =>
    intro n1 i e hn
    obtain ⟨n1, rfl⟩ := fu_pos hn
    show b_X0_clerkNamed_2 _ w x (nI i) = some (if w.2 4 i = x then nI i else fi (fun c => w.2 4 c = x) (i + 1) k)
    unfold b_X0_clerkNamed_2
    rw [hn2, if_neg (nI_ge (by omega) (by omega)), if_pos (gin_nI (by omega) (by omega)), nI_clamp (by omega), nI_1, ih n1 (i + 1) (by omega) (by omega)]
    by_cases hp : w.2 4 i = x
    · rw [if_pos hp, if_pos (lgc_eq _ _ ▸ hp)]
    · rw [if_neg hp, if_neg (lgc_eq _ _ ▸ hp)]
theorem m_find_l {b nk : Nat} {x : Int64} (hx : F_X11_nameHere m = some x) (hb : b + nk ≤ 36) : ∀ k n1 i, i + k = nk → k < n1 → f_X11_findHere_2 m n1 (nI b) (nI nk) (nI i) = some (fi (fun c => m.2 2 (b + c) = x) i k) := by
  intro k
  induction k with
  | zero =>
    intro n1 i e hn
    obtain ⟨n1, rfl⟩ := fu_pos hn
    show b_X11_findHere_2 _ m (nI b) (nI nk) (nI i) = _
    unfold b_X11_findHere_2
    rw [if_pos (nI_le (by omega) (by omega))]
    rfl
  | succ k ih =>
    intro n1 i e hn
    obtain ⟨n1, rfl⟩ := fu_pos hn
    show b_X11_findHere_2 _ m (nI b) (nI nk) (nI i) = some (if m.2 2 (b + i) = x then nI i else fi (fun c => m.2 2 (b + c) = x) (i + 1) k)
    unfold b_X11_findHere_2
    rw [if_neg (nI_ge (by omega) (by omega)), nI_add, if_pos (gin_nI (by omega) (by omega)), nI_clamp (by omega), hx, Option.bind_some, nI_1, ih n1 (i + 1) (by omega) (by omega)]
    by_cases hp : m.2 2 (b + i) = x
    · rw [if_pos hp, if_pos (lgc_eq _ _ ▸ hp)]
    · rw [if_neg hp, if_neg (lgc_eq _ _ ▸ hp)]
/-- both find the clerk of a name, or none -/
theorem find_both {w : GW} {b nk : Nat} {x x' : Int64} (hx : F_X11_nameHere m = some x') (hxx : nmR x x') (hn2 : w.1 0 5 = nI nk) (h6 : nk ≤ 6) (hb : b ≤ 30) (hr : ∀ k, k < nk → nmR (w.2 4 k) (m.2 2 (b + k))) : ∃ r, F_X0_clerkNamed w x = some r ∧ F_X11_findHere m (nI b) (nI nk) = some r ∧ (r = (-1 : Int32) ∨ ∃ c, c < nk ∧ r = nI c) := by
  have hF := FU_big
  refine ⟨fi (fun c => w.2 4 c = x) 0 nk, x_named_l x hn2 h6 nk FU 0 (by omega) (by omega), ?_, ?_⟩
  · rw [fi_congr (q := fun c => m.2 2 (b + c) = x') nk 0 (fun k _ h2 => nmR_eq (hr k (by omega)) hxx)]
    exact m_find_l hx (by omega) nk FU 0 (by omega) (by omega)
  · rcases fi_cases (fun c => w.2 4 c = x) nk 0 (by omega) with h | ⟨k, _, h2, h3, _⟩
    · exact Or.inl h.1
    · exact Or.inr ⟨k, by omega, h3⟩
end
