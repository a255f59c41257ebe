/-! A bank copied, one client more, one clerk more. -/
theorem cpy0 {α : Type} {f g : Nat → α} {n j : Nat} (h : j < n) : va_cpy f g 0 0 n j = f j := by
  rw [pk_cpy_in (by omega) (by omega)]
  congr 1
  omega
def cpB (w : GW) : GW := (F_X0_copyFrom w).getD w
theorem x_copyB (w : GW) : F_X0_copyFrom w = some (cpB w) := rfl
def bB2 (w : GW) : GW := (fun i => w.1 (13 + i), fun i => w.2 (13 + i))
section
variable {w m : GW} {a : Nat → Int32} {nm : Nat → Int64} {nc nr nk nl : Nat}
theorem Bq.copy (h : Bq (bB2 w) a nm nc nr nk nl) (hn : nc ≤ 7 ∧ nr ≤ 5 ∧ nk ≤ 6 ∧ nl ≤ 8) : Bq (cpB w) a nm nc nr nk nl := by
  refine ⟨⟨?_, ?_, ?_⟩, ⟨?_, ?_, ?_, ?_⟩, fun k hk => ?_, fun k hk => ⟨?_, ?_⟩, fun k hk => ?_, fun k hk => ⟨?_, ?_, ?_, ?_, ?_, ?_⟩, fun k hk => ⟨?_, ?_⟩⟩
  · exact h.odds
  · exact h.cash
  · exact h.year
  · exact h.n0
  · exact h.n1
  · exact h.n2
  · exact h.n3
  · have e : (cpB w).1 1 k = w.1 14 k := by
      show va_cpy (w.1 14) (w.1 1) 0 0 7 k = _
      exact cpy0 (by omega)
    rw [e]; exact h.still hk
  · have e : (cpB w).1 2 k = w.1 15 k := by
      show va_cpy (w.1 15) (w.1 2) 0 0 5 k = _
      exact cpy0 (by omega)
    rw [e]; exact h.at hk
  · have e : (cpB w).1 3 k = w.1 16 k := by
      show va_cpy (w.1 16) (w.1 3) 0 0 5 k = _
      exact cpy0 (by omega)
    rw [e]; exact h.pay hk
  · have e : (cpB w).2 4 k = w.2 17 k := by
      show va_cpy (w.2 17) (w.2 4) 0 0 6 k = _
      exact cpy0 (by omega)
    rw [e]; exact h.name hk
  · have e : (cpB w).1 5 k = w.1 18 k := by
      show va_cpy (w.1 18) (w.1 5) 0 0 6 k = _
      exact cpy0 (by omega)
    rw [e]; exact h.seat hk
  · have e : (cpB w).1 6 k = w.1 19 k := by
      show va_cpy (w.1 19) (w.1 6) 0 0 6 k = _
      exact cpy0 (by omega)
    rw [e]; exact h.served hk
  · have e : (cpB w).1 7 k = w.1 20 k := by
      show va_cpy (w.1 20) (w.1 7) 0 0 6 k = _
      exact cpy0 (by omega)
    rw [e]; exact h.grey hk
  · have e : (cpB w).1 8 k = w.1 21 k := by
      show va_cpy (w.1 21) (w.1 8) 0 0 6 k = _
      exact cpy0 (by omega)
    rw [e]; exact h.sham hk
  · have e : (cpB w).1 9 k = w.1 22 k := by
      show va_cpy (w.1 22) (w.1 9) 0 0 6 k = _
      exact cpy0 (by omega)
    rw [e]; exact h.paid hk
  · have e : (cpB w).1 10 k = w.1 23 k := by
      show va_cpy (w.1 23) (w.1 10) 0 0 6 k = _
      exact cpy0 (by omega)
    rw [e]; exact h.unpaid hk
  · have e : (cpB w).1 11 k = w.1 24 k := by
      show va_cpy (w.1 24) (w.1 11) 0 0 8 k = _
      exact cpy0 (by omega)
    rw [e]; exact h.sum hk
  · have e : (cpB w).1 12 k = w.1 25 k := by
      show va_cpy (w.1 25) (w.1 12) 0 0 8 k = _
      exact cpy0 (by omega)
    rw [e]; exact h.nerve hk
/-! one client more -/
def aOpen (a : Nat → Int32) (l : Nat) (s v : Int32) : Nat → Int32 := upd (upd (upd (upd a 3 (nI (l + 1))) (69 + 2 * l) s) (69 + 2 * l + 1) v) 5 (imin (9999 : Int32) (a 5 + s))
theorem Bi.opn (hi : Bi a nc nr nk nl) (hl : nl < 8) {s v : Nat} (hs : 1 ≤ s ∧ s ≤ 99) (hv : v ≤ 999) : Bi (aOpen a nl (nI s) (nI v)) nc nr nk (nl + 1) := by
  have hn := hi.cnt
  obtain ⟨c, hc, ec⟩ := hi.cash
  unfold aOpen
  refine Bi.set_cash ?_ ⟨min 9999 (c + s), by omega, ?_⟩
  · refine ⟨⟨?_, ?_, ?_, ?_⟩, ⟨hn.1, hn.2.1, hn.2.2.1, by omega⟩, ?_, ?_, fun k hk => ?_, fun k hk => ⟨?_, ?_⟩, fun k hk => ⟨?_, ?_, ?_⟩, fun j k hj hk e => ?_, fun k hk => ⟨?_, ?_⟩⟩
    · rw [pk_un (by omega), pk_un (by omega), pk_un (by omega)]; exact hi.n0
    · rw [pk_un (by omega), pk_un (by omega), pk_un (by omega)]; exact hi.n1
    · rw [pk_un (by omega), pk_un (by omega), pk_un (by omega)]; exact hi.n2
    · rw [pk_un (by omega), pk_un (by omega), pk_us]
    · rw [pk_un (by omega), pk_un (by omega), pk_un (by omega)]; exact hi.odds
    · rw [pk_un (by omega), pk_un (by omega), pk_un (by omega)]; exact hi.cash
    · rw [pk_un (by omega), pk_un (by omega), pk_un (by omega)]; exact hi.still hk
    · rw [pk_un (by omega), pk_un (by omega), pk_un (by omega)]; exact hi.at hk
    · rw [pk_un (by omega), pk_un (by omega), pk_un (by omega)]; exact hi.pay hk
    · rw [pk_un (by omega), pk_un (by omega), pk_un (by omega)]; exact hi.seat hk
    · rw [pk_un (by omega), pk_un (by omega), pk_un (by omega)]; exact hi.grey hk
    · rw [pk_un (by omega), pk_un (by omega), pk_un (by omega)]; exact hi.sham hk
    · rw [pk_un (by omega), pk_un (by omega), pk_un (by omega), pk_un (by omega), pk_un (by omega), pk_un (by omega)] at e; exact hi.apart hj hk e
    · by_cases e : k = nl
      · subst e; rw [pk_un (by omega), pk_us]; exact ⟨s, hs.1, hs.2, rfl⟩
      · rw [pk_un (by omega), pk_un (by omega), pk_un (by omega)]; exact hi.sum (by omega)
    · by_cases e : k = nl
      · subst e; rw [pk_us]; exact ⟨v, hv, rfl⟩
      · rw [pk_un (by omega), pk_un (by omega), pk_un (by omega)]; exact hi.nerve (by omega)
  · rw [ec, nI_add]
    exact imin_nI (a := 9999) (by omega) (by omega)
theorem Bq.a3 (h : Bq w a nm nc nr nk nl) (hn : nc ≤ 7 ∧ nr ≤ 5 ∧ nk ≤ 6 ∧ nl ≤ 8) {b : Nat → Int32} (hb : ∀ k, k ≠ 3 → k < 69 + 2 * nl → b k = a k) : Bq w b nm nc nr nk nl := by
  refine ⟨⟨?_, ?_, ?_⟩, h.2.1, fun k hk => ?_, fun k hk => ⟨?_, ?_⟩, fun k hk => h.name hk, fun k hk => ⟨?_, ?_, ?_, ?_, ?_, ?_⟩, fun k hk => ⟨?_, ?_⟩⟩
  · rw [hb _ (by omega) (by omega)]; exact h.odds
  · rw [hb _ (by omega) (by omega)]; exact h.cash
  · rw [hb _ (by omega) (by omega)]; exact h.year
  · rw [hb _ (by omega) (by omega)]; exact h.still hk
  · rw [hb _ (by omega) (by omega)]; exact h.at hk
  · rw [hb _ (by omega) (by omega)]; exact h.pay hk
  · rw [hb _ (by omega) (by omega)]; exact h.seat hk
  · rw [hb _ (by omega) (by omega)]; exact h.served hk
  · rw [hb _ (by omega) (by omega)]; exact h.grey hk
  · rw [hb _ (by omega) (by omega)]; exact h.sham hk
  · rw [hb _ (by omega) (by omega)]; exact h.paid hk
  · rw [hb _ (by omega) (by omega)]; exact h.unpaid hk
  · rw [hb _ (by omega) (by omega)]; exact h.sum hk
  · rw [hb _ (by omega) (by omega)]; exact h.nerve hk
theorem x_addClient (h : Bq w a nm nc nr nk nl) (hi : Bi a nc nr nk nl) (hl : nl < 8) (s v : Int32) : ∃ w', F_X0_addClient s v (gI w 0 1 (imin (9999 : Int32) (a 5 + s))) = some (nI nl, w') ∧ Bq w' (aOpen a nl s v) nm nc nr nk (nl + 1) := by
  have hn := hi.cnt
  have h1 := (h.set_cash hn (imin (9999 : Int32) (a 5 + s))).a3 hn (b := aOpen a nl s v) (fun k h3 hk => by
    unfold aOpen
    by_cases e : k = 5
    · subst e; rw [pk_us, pk_us]
    · rw [pk_un e, pk_un (by omega), pk_un (by omega), pk_un h3, pk_un e])
  have e6 : (gI w 0 1 (imin (9999 : Int32) (a 5 + s))).1 0 6 = nI nl := by rw [gI_ne _ _ _ _ (by omega)]; exact h.n3
  rw [← gI_id (gI w 0 1 (imin (9999 : Int32) (a 5 + s))) e6] at h1
  refine ⟨_, ?_, h1.snoc (x := s) (y := v) ?_ ?_⟩
  · unfold F_X0_addClient
    rw [e6, if_pos (nI_ltL (by omega) (by omega)), if_pos (gin_nI (by omega) (by omega)), nI_clamp (by omega), nI_1, show nI (nl + 1) - (1 : Int32) = nI nl from nI_pred nl]
  · unfold aOpen
    rw [pk_un (by omega), pk_un (by omega), pk_us]
  · unfold aOpen
    rw [pk_un (by omega), pk_us]
/-! one clerk more -/
def aHire (a : Nat → Int32) (c : Nat) (s : Int32) : Nat → Int32 := fun k => if k = 2 then nI (c + 1) else if k = 27 + 7 * c then s else if 27 + 7 * c ≤ k ∧ k < 34 + 7 * c then 0 else a k
theorem aHire_2 (a : Nat → Int32) (c : Nat) (s : Int32) : aHire a c s 2 = nI (c + 1) := if_pos rfl
theorem aHire_s (a : Nat → Int32) (c : Nat) (s : Int32) : aHire a c s (27 + 7 * c) = s := by
  unfold aHire
  rw [if_neg (by omega), if_pos rfl]
theorem aHire_0 {a : Nat → Int32} {c k : Nat} {s : Int32} (h : 27 + 7 * c < k) (h2 : k < 34 + 7 * c) : aHire a c s k = 0 := by
  unfold aHire
  rw [if_neg (by omega), if_neg (by omega), if_pos (by omega)]
theorem aHire_n {a : Nat → Int32} {c k : Nat} {s : Int32} (h2 : k ≠ 2) (h : k < 27 + 7 * c ∨ 34 + 7 * c ≤ k) : aHire a c s k = a k := by
  unfold aHire
  rw [if_neg h2, if_neg (by omega), if_neg (by omega)]
theorem Bi.hire (hi : Bi a nc nr nk nl) (hk6 : nk < 6) {s : Nat} (hs : s < nc) (hf : ∀ k, k < nk → a (27 + 7 * k) ≠ nI s) : Bi (aHire a nk (nI s)) nc nr (nk + 1) nl := by
  have hn := hi.cnt
  refine ⟨⟨?_, ?_, ?_, ?_⟩, ⟨hn.1, hn.2.1, by omega, hn.2.2.2⟩, ?_, ?_, fun k hk => ?_, fun k hk => ⟨?_, ?_⟩, fun k hk => ?_, fun j k hj hk e => ?_, fun k hk => ⟨?_, ?_⟩⟩
  · rw [aHire_n (by omega) (by omega)]; exact hi.n0
  · rw [aHire_n (by omega) (by omega)]; exact hi.n1
  · exact aHire_2 _ _ _
  · rw [aHire_n (by omega) (by omega)]; exact hi.n3
  · rw [aHire_n (by omega) (by omega)]; exact hi.odds
  · rw [aHire_n (by omega) (by omega)]; exact hi.cash
  · rw [aHire_n (by omega) (by omega)]; exact hi.still hk
  · rw [aHire_n (by omega) (by omega)]; exact hi.at hk
  · rw [aHire_n (by omega) (by omega)]; exact hi.pay hk
  · by_cases e : k = nk
    · subst e; rw [aHire_s, aHire_0 (by omega) (by omega), aHire_0 (by omega) (by omega)]; exact ⟨⟨s, hs, rfl⟩, ⟨0, by omega, rfl⟩, ⟨0, by omega, rfl⟩⟩
    · rw [aHire_n (by omega) (by omega), aHire_n (by omega) (by omega), aHire_n (by omega) (by omega)]
      exact ⟨hi.seat (by omega), hi.grey (by omega), hi.sham (by omega)⟩
  · by_cases e1 : j = nk
    · by_cases e2 : k = nk
      · omega
      · rw [e1, aHire_s, aHire_n (by omega) (by omega)] at e; exact absurd e.symm (hf k (by omega))
    · by_cases e2 : k = nk
      · rw [e2, aHire_s, aHire_n (by omega) (by omega)] at e; exact absurd e (hf j (by omega))
      · rw [aHire_n (by omega) (by omega), aHire_n (by omega) (by omega)] at e; exact hi.apart (by omega) (by omega) e
  · rw [aHire_n (by omega) (by omega)]; exact hi.sum hk
  · rw [aHire_n (by omega) (by omega)]; exact hi.nerve hk
theorem nmR_0 : nmR 0 0 := ⟨[], by decide, fun c hc => absurd hc (List.not_mem_nil), rfl, rfl⟩
/-- the class's rows with one clerk more, whatever his name is -/
theorem x_addClerk (h : Bq w a nm nc nr nk nl) (hi : Bi a nc nr nk nl) (hk6 : nk < 6) {x y : Int64} (hxy : nmR x y) (s : Int32) : ∃ w', F_X0_addClerk x s w = some (nI nk, w') ∧ Bq w' (aHire a nk s) (vp_updL nm nk y) nc nr (nk + 1) nl := by
  have hn := hi.cnt
  refine ⟨gI (gI (gI (gI (gI (gI (gI (gL w 4 nk x) 5 nk s) 6 nk 0) 7 nk 0) 8 nk 0) 9 nk 0) 10 nk 0) 0 5 (nI (nk + 1)), ?_, ?_⟩
  · unfold F_X0_addClerk
    rw [h.n2, if_pos (nI_ltL (by omega) (by omega)), if_pos (gin_nI (by omega) (by omega)), nI_clamp (by omega), nI_1, show nI (nk + 1) - (1 : Int32) = nI nk from nI_pred nk]
  · refine ⟨⟨?_, ?_, ?_⟩, ⟨?_, ?_, ?_, ?_⟩, fun k hk => ?_, fun k hk => ⟨?_, ?_⟩, fun k hk => ?_, fun k hk => ?_, fun k hk => ⟨?_, ?_⟩⟩
    · simp (disch := omega) only [gI_ne, gL_1, aHire_n]; exact h.odds
    · simp (disch := omega) only [gI_ne, gL_1, aHire_n]; exact h.cash
    · simp (disch := omega) only [gI_ne, gL_1, aHire_n]; exact h.year
    · simp (disch := omega) only [gI_ne, gL_1, aHire_n]; exact h.n0
    · simp (disch := omega) only [gI_ne, gL_1, aHire_n]; exact h.n1
    · exact gI_same _ _ _ _
    · simp (disch := omega) only [gI_ne, gL_1, aHire_n]; exact h.n3
    · simp (disch := omega) only [gI_ne, gL_1, aHire_n]; exact h.still hk
    · simp (disch := omega) only [gI_ne, gL_1, aHire_n]; exact h.at hk
    · simp (disch := omega) only [gI_ne, gL_1, aHire_n]; exact h.pay hk
    · simp only [gI_2]
      by_cases e : k = nk
      · subst e; rw [gL_same, pk_uLs]; exact hxy
      · rw [gL_ne _ _ _ _ (by omega), pk_uLn e]; exact h.name (by omega)
    · by_cases e : k = nk
      · subst e
        simp (disch := omega) only [gI_ne, gI_same, aHire_s, aHire_0, and_self]
      · simp (disch := omega) only [gI_ne, gL_1, aHire_n]
        exact ⟨h.seat (by omega), h.served (by omega), h.grey (by omega), h.sham (by omega), h.paid (by omega), h.unpaid (by omega)⟩
    · simp (disch := omega) only [gI_ne, gL_1, aHire_n]; exact h.sum hk
    · simp (disch := omega) only [gI_ne, gL_1, aHire_n]; exact h.nerve hk
end
