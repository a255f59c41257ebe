/-! One place of the bank changes on both sides (made by wip/tools/gen43.py). -/
def pA (m : GW) (a : Nat → Int32) : GW := (fun i => if i = 1 then a else m.1 i, m.2)
theorem pA_1 (m : GW) (a : Nat → Int32) : (pA m a).1 1 = a := rfl
theorem pA_2 (m : GW) (a : Nat → Int32) : (pA m a).2 = m.2 := rfl
theorem pA_ne (m : GW) (a : Nat → Int32) {i : Nat} (h : i ≠ 1) : (pA m a).1 i = m.1 i := if_neg h
theorem pA_pA (m : GW) (a b : Nat → Int32) : pA (pA m a) b = pA m b := by
  refine Prod.ext (funext fun i => ?_) rfl
  show (if i = 1 then b else (if i = 1 then a else m.1 i)) = (if i = 1 then b else m.1 i)
  by_cases h : i = 1
  · rw [if_pos h, if_pos h]
  · rw [if_neg h, if_neg h, if_neg h]
theorem pA_id (m : GW) : pA m (m.1 1) = m := by
  refine Prod.ext (funext fun i => ?_) rfl
  show (if i = 1 then m.1 1 else m.1 i) = m.1 i
  by_cases h : i = 1
  · rw [if_pos h, h]
  · rw [if_neg h]
theorem gI_pA (m : GW) (k : Nat) (v : Int32) : gI m 1 k v = pA m (upd (m.1 1) k v) := by
  refine Prod.ext (funext fun i => funext fun j => ?_) rfl
  show (if i = 1 ∧ j = k then v else m.1 i j) = (if i = 1 then upd (m.1 1) k v else m.1 i) j
  by_cases h : i = 1
  · rw [if_pos h, h]
    show _ = (if j = k then v else m.1 1 j)
    by_cases h2 : j = k
    · rw [if_pos ⟨rfl, h2⟩, if_pos h2]
    · rw [if_neg (fun q => h2 q.2), if_neg h2]
  · rw [if_neg (fun q => h q.1), if_neg h]
theorem gI_2 (m : GW) (i k : Nat) (v : Int32) : (gI m i k v).2 = m.2 := rfl
theorem gL_1 (m : GW) (i k : Nat) (v : Int64) : (gL m i k v).1 = m.1 := rfl
theorem Bq.congr {w w' : GW} {a a' : Nat → Int32} {nm : Nat → Int64} {nc nr nk nl : Nat} (h : Bq w a nm nc nr nk nl) (hn : nc ≤ 7 ∧ nr ≤ 5 ∧ nk ≤ 6 ∧ nl ≤ 8) (hw : ∀ i k, i < 13 → w'.1 i k = w.1 i k) (hw2 : ∀ k, w'.2 4 k = w.2 4 k) (ha : ∀ k, k < 86 → a' k = a k) : Bq w' a' nm nc nr nk nl := by
  refine ⟨⟨?_, ?_, ?_⟩, ⟨?_, ?_, ?_, ?_⟩, fun k hk => ?_, fun k hk => ⟨?_, ?_⟩, fun k hk => ?_, fun k hk => ⟨?_, ?_, ?_, ?_, ?_, ?_⟩, fun k hk => ⟨?_, ?_⟩⟩
  · rw [hw _ _ (by omega), ha _ (by omega)]; exact h.odds
  · rw [hw _ _ (by omega), ha _ (by omega)]; exact h.cash
  · rw [hw _ _ (by omega), ha _ (by omega)]; exact h.year
  · rw [hw _ _ (by omega)]; exact h.n0
  · rw [hw _ _ (by omega)]; exact h.n1
  · rw [hw _ _ (by omega)]; exact h.n2
  · rw [hw _ _ (by omega)]; exact h.n3
  · rw [hw _ _ (by omega), ha _ (by omega)]; exact h.still hk
  · rw [hw _ _ (by omega), ha _ (by omega)]; exact h.at hk
  · rw [hw _ _ (by omega), ha _ (by omega)]; exact h.pay hk
  · rw [hw2]; exact h.name hk
  · rw [hw _ _ (by omega), ha _ (by omega)]; exact h.seat hk
  · rw [hw _ _ (by omega), ha _ (by omega)]; exact h.served hk
  · rw [hw _ _ (by omega), ha _ (by omega)]; exact h.grey hk
  · rw [hw _ _ (by omega), ha _ (by omega)]; exact h.sham hk
  · rw [hw _ _ (by omega), ha _ (by omega)]; exact h.paid hk
  · rw [hw _ _ (by omega), ha _ (by omega)]; exact h.unpaid hk
  · rw [hw _ _ (by omega), ha _ (by omega)]; exact h.sum hk
  · rw [hw _ _ (by omega), ha _ (by omega)]; exact h.nerve hk
theorem Bi.congr {a a' : Nat → Int32} {nc nr nk nl : Nat} (h : Bi a nc nr nk nl) (ha : ∀ k, k < 86 → a' k = a k) : Bi a' nc nr nk nl := by
  have hn := h.cnt
  refine ⟨⟨?_, ?_, ?_, ?_⟩, h.cnt, ?_, ?_, fun k hk => ?_, fun k hk => ⟨?_, ?_⟩, fun k hk => ⟨?_, ?_, ?_⟩, fun j k hj hk e => ?_, fun k hk => ⟨?_, ?_⟩⟩
  · rw [ha _ (by omega)]; exact h.n0
  · rw [ha _ (by omega)]; exact h.n1
  · rw [ha _ (by omega)]; exact h.n2
  · rw [ha _ (by omega)]; exact h.n3
  · rw [ha _ (by omega)]; exact h.odds
  · rw [ha _ (by omega)]; exact h.cash
  · rw [ha _ (by omega)]; exact h.still hk
  · rw [ha _ (by omega)]; exact h.at hk
  · rw [ha _ (by omega)]; exact h.pay hk
  · rw [ha _ (by omega)]; exact h.seat hk
  · rw [ha _ (by omega)]; exact h.grey hk
  · rw [ha _ (by omega)]; exact h.sham hk
  · rw [ha _ (by omega), ha _ (by omega)] at e; exact h.apart hj hk e
  · rw [ha _ (by omega)]; exact h.sum hk
  · rw [ha _ (by omega)]; exact h.nerve hk
section
variable {w m : GW} {a : Nat → Int32} {nm : Nat → Int64} {nc nr nk nl : Nat}
theorem Bq.set_odds (h : Bq w a nm nc nr nk nl) (hn : nc ≤ 7 ∧ nr ≤ 5 ∧ nk ≤ 6 ∧ nl ≤ 8) (v : Int32) : Bq (gI w 0 0 v) (upd a 4 v) nm nc nr nk nl := by
  refine ⟨⟨?_, ?_, ?_⟩, ⟨?_, ?_, ?_, ?_⟩, fun k hk => ?_, fun k hk => ⟨?_, ?_⟩, fun k hk => ?_, fun k hk => ⟨?_, ?_, ?_, ?_, ?_, ?_⟩, fun k hk => ⟨?_, ?_⟩⟩
  · rw [gI_same, pk_us]
  · rw [gI_ne _ _ _ _ (by omega), pk_un (by omega)]; exact h.cash
  · rw [gI_ne _ _ _ _ (by omega), pk_un (by omega)]; exact h.year
  · rw [gI_ne _ _ _ _ (by omega)]; exact h.n0
  · rw [gI_ne _ _ _ _ (by omega)]; exact h.n1
  · rw [gI_ne _ _ _ _ (by omega)]; exact h.n2
  · rw [gI_ne _ _ _ _ (by omega)]; exact h.n3
  · rw [gI_ne _ _ _ _ (by omega), pk_un (by omega)]; exact h.still hk
  · rw [gI_ne _ _ _ _ (by omega), pk_un (by omega)]; exact h.at hk
  · rw [gI_ne _ _ _ _ (by omega), pk_un (by omega)]; exact h.pay hk
  · exact h.name hk
  · rw [gI_ne _ _ _ _ (by omega), pk_un (by omega)]; exact h.seat hk
  · rw [gI_ne _ _ _ _ (by omega), pk_un (by omega)]; exact h.served hk
  · rw [gI_ne _ _ _ _ (by omega), pk_un (by omega)]; exact h.grey hk
  · rw [gI_ne _ _ _ _ (by omega), pk_un (by omega)]; exact h.sham hk
  · rw [gI_ne _ _ _ _ (by omega), pk_un (by omega)]; exact h.paid hk
  · rw [gI_ne _ _ _ _ (by omega), pk_un (by omega)]; exact h.unpaid hk
  · rw [gI_ne _ _ _ _ (by omega), pk_un (by omega)]; exact h.sum hk
  · rw [gI_ne _ _ _ _ (by omega), pk_un (by omega)]; exact h.nerve hk
theorem Bi.set_odds (h : Bi a nc nr nk nl) {v : Int32} (hv : ∃ o, o ≤ 16 ∧ v = nI o) : Bi (upd a 4 v) nc nr nk nl := by
  have hn := h.cnt
  refine ⟨⟨?_, ?_, ?_, ?_⟩, h.cnt, ?_, ?_, fun k hk => ?_, fun k hk => ⟨?_, ?_⟩, fun k hk => ⟨?_, ?_, ?_⟩, fun j k hj hk e => ?_, fun k hk => ⟨?_, ?_⟩⟩
  · rw [pk_un (by omega)]; exact h.n0
  · rw [pk_un (by omega)]; exact h.n1
  · rw [pk_un (by omega)]; exact h.n2
  · rw [pk_un (by omega)]; exact h.n3
  · rw [pk_us]; exact hv
  · rw [pk_un (by omega)]; exact h.cash
  · rw [pk_un (by omega)]; exact h.still hk
  · rw [pk_un (by omega)]; exact h.at hk
  · rw [pk_un (by omega)]; exact h.pay hk
  · rw [pk_un (by omega)]; exact h.seat hk
  · rw [pk_un (by omega)]; exact h.grey hk
  · rw [pk_un (by omega)]; exact h.sham hk
  · rw [pk_un (by omega), pk_un (by omega)] at e; exact h.apart hj hk e
  · rw [pk_un (by omega)]; exact h.sum hk
  · rw [pk_un (by omega)]; exact h.nerve hk
theorem Bq.set_cash (h : Bq w a nm nc nr nk nl) (hn : nc ≤ 7 ∧ nr ≤ 5 ∧ nk ≤ 6 ∧ nl ≤ 8) (v : Int32) : Bq (gI w 0 1 v) (upd a 5 v) nm nc nr nk nl := by
  refine ⟨⟨?_, ?_, ?_⟩, ⟨?_, ?_, ?_, ?_⟩, fun k hk => ?_, fun k hk => ⟨?_, ?_⟩, fun k hk => ?_, fun k hk => ⟨?_, ?_, ?_, ?_, ?_, ?_⟩, fun k hk => ⟨?_, ?_⟩⟩
  · rw [gI_ne _ _ _ _ (by omega), pk_un (by omega)]; exact h.odds
  · rw [gI_same, pk_us]
  · rw [gI_ne _ _ _ _ (by omega), pk_un (by omega)]; exact h.year
  · rw [gI_ne _ _ _ _ (by omega)]; exact h.n0
  · rw [gI_ne _ _ _ _ (by omega)]; exact h.n1
  · rw [gI_ne _ _ _ _ (by omega)]; exact h.n2
  · rw [gI_ne _ _ _ _ (by omega)]; exact h.n3
  · rw [gI_ne _ _ _ _ (by omega), pk_un (by omega)]; exact h.still hk
  · rw [gI_ne _ _ _ _ (by omega), pk_un (by omega)]; exact h.at hk
  · rw [gI_ne _ _ _ _ (by omega), pk_un (by omega)]; exact h.pay hk
  · exact h.name hk
  · rw [gI_ne _ _ _ _ (by omega), pk_un (by omega)]; exact h.seat hk
  · rw [gI_ne _ _ _ _ (by omega), pk_un (by omega)]; exact h.served hk
  · rw [gI_ne _ _ _ _ (by omega), pk_un (by omega)]; exact h.grey hk
  · rw [gI_ne _ _ _ _ (by omega), pk_un (by omega)]; exact h.sham hk
  · rw [gI_ne _ _ _ _ (by omega), pk_un (by omega)]; exact h.paid hk
  · rw [gI_ne _ _ _ _ (by omega), pk_un (by omega)]; exact h.unpaid hk
  · rw [gI_ne _ _ _ _ (by omega), pk_un (by omega)]; exact h.sum hk
  · rw [gI_ne _ _ _ _ (by omega), pk_un (by omega)]; exact h.nerve hk
theorem Bi.set_cash (h : Bi a nc nr nk nl) {v : Int32} (hv : ∃ o, o ≤ 9999 ∧ v = nI o) : Bi (upd a 5 v) nc nr nk nl := by
  have hn := h.cnt
  refine ⟨⟨?_, ?_, ?_, ?_⟩, h.cnt, ?_, ?_, fun k hk => ?_, fun k hk => ⟨?_, ?_⟩, fun k hk => ⟨?_, ?_, ?_⟩, fun j k hj hk e => ?_, fun k hk => ⟨?_, ?_⟩⟩
  · rw [pk_un (by omega)]; exact h.n0
  · rw [pk_un (by omega)]; exact h.n1
  · rw [pk_un (by omega)]; exact h.n2
  · rw [pk_un (by omega)]; exact h.n3
  · rw [pk_un (by omega)]; exact h.odds
  · rw [pk_us]; exact hv
  · rw [pk_un (by omega)]; exact h.still hk
  · rw [pk_un (by omega)]; exact h.at hk
  · rw [pk_un (by omega)]; exact h.pay hk
  · rw [pk_un (by omega)]; exact h.seat hk
  · rw [pk_un (by omega)]; exact h.grey hk
  · rw [pk_un (by omega)]; exact h.sham hk
  · rw [pk_un (by omega), pk_un (by omega)] at e; exact h.apart hj hk e
  · rw [pk_un (by omega)]; exact h.sum hk
  · rw [pk_un (by omega)]; exact h.nerve hk
theorem Bq.set_year (h : Bq w a nm nc nr nk nl) (hn : nc ≤ 7 ∧ nr ≤ 5 ∧ nk ≤ 6 ∧ nl ≤ 8) (v : Int32) : Bq (gI w 0 2 v) (upd a 6 v) nm nc nr nk nl := by
  refine ⟨⟨?_, ?_, ?_⟩, ⟨?_, ?_, ?_, ?_⟩, fun k hk => ?_, fun k hk => ⟨?_, ?_⟩, fun k hk => ?_, fun k hk => ⟨?_, ?_, ?_, ?_, ?_, ?_⟩, fun k hk => ⟨?_, ?_⟩⟩
  · rw [gI_ne _ _ _ _ (by omega), pk_un (by omega)]; exact h.odds
  · rw [gI_ne _ _ _ _ (by omega), pk_un (by omega)]; exact h.cash
  · rw [gI_same, pk_us]
  · rw [gI_ne _ _ _ _ (by omega)]; exact h.n0
  · rw [gI_ne _ _ _ _ (by omega)]; exact h.n1
  · rw [gI_ne _ _ _ _ (by omega)]; exact h.n2
  · rw [gI_ne _ _ _ _ (by omega)]; exact h.n3
  · rw [gI_ne _ _ _ _ (by omega), pk_un (by omega)]; exact h.still hk
  · rw [gI_ne _ _ _ _ (by omega), pk_un (by omega)]; exact h.at hk
  · rw [gI_ne _ _ _ _ (by omega), pk_un (by omega)]; exact h.pay hk
  · exact h.name hk
  · rw [gI_ne _ _ _ _ (by omega), pk_un (by omega)]; exact h.seat hk
  · rw [gI_ne _ _ _ _ (by omega), pk_un (by omega)]; exact h.served hk
  · rw [gI_ne _ _ _ _ (by omega), pk_un (by omega)]; exact h.grey hk
  · rw [gI_ne _ _ _ _ (by omega), pk_un (by omega)]; exact h.sham hk
  · rw [gI_ne _ _ _ _ (by omega), pk_un (by omega)]; exact h.paid hk
  · rw [gI_ne _ _ _ _ (by omega), pk_un (by omega)]; exact h.unpaid hk
  · rw [gI_ne _ _ _ _ (by omega), pk_un (by omega)]; exact h.sum hk
  · rw [gI_ne _ _ _ _ (by omega), pk_un (by omega)]; exact h.nerve hk
theorem Bi.set_year (h : Bi a nc nr nk nl) {v : Int32}  : Bi (upd a 6 v) nc nr nk nl := by
  have hn := h.cnt
  refine ⟨⟨?_, ?_, ?_, ?_⟩, h.cnt, ?_, ?_, fun k hk => ?_, fun k hk => ⟨?_, ?_⟩, fun k hk => ⟨?_, ?_, ?_⟩, fun j k hj hk e => ?_, fun k hk => ⟨?_, ?_⟩⟩
  · rw [pk_un (by omega)]; exact h.n0
  · rw [pk_un (by omega)]; exact h.n1
  · rw [pk_un (by omega)]; exact h.n2
  · rw [pk_un (by omega)]; exact h.n3
  · rw [pk_un (by omega)]; exact h.odds
  · rw [pk_un (by omega)]; exact h.cash
  · rw [pk_un (by omega)]; exact h.still hk
  · rw [pk_un (by omega)]; exact h.at hk
  · rw [pk_un (by omega)]; exact h.pay hk
  · rw [pk_un (by omega)]; exact h.seat hk
  · rw [pk_un (by omega)]; exact h.grey hk
  · rw [pk_un (by omega)]; exact h.sham hk
  · rw [pk_un (by omega), pk_un (by omega)] at e; exact h.apart hj hk e
  · rw [pk_un (by omega)]; exact h.sum hk
  · rw [pk_un (by omega)]; exact h.nerve hk
theorem Bq.set_still (h : Bq w a nm nc nr nk nl) (hn : nc ≤ 7 ∧ nr ≤ 5 ∧ nk ≤ 6 ∧ nl ≤ 8) {c : Nat} (hc : c < nc) (v : Int32) : Bq (gI w 1 c v) (upd a (10 + c) v) nm nc nr nk nl := by
  refine ⟨⟨?_, ?_, ?_⟩, ⟨?_, ?_, ?_, ?_⟩, fun k hk => ?_, fun k hk => ⟨?_, ?_⟩, fun k hk => ?_, fun k hk => ⟨?_, ?_, ?_, ?_, ?_, ?_⟩, fun k hk => ⟨?_, ?_⟩⟩
  · rw [gI_ne _ _ _ _ (by omega), pk_un (by omega)]; exact h.odds
  · rw [gI_ne _ _ _ _ (by omega), pk_un (by omega)]; exact h.cash
  · rw [gI_ne _ _ _ _ (by omega), pk_un (by omega)]; exact h.year
  · rw [gI_ne _ _ _ _ (by omega)]; exact h.n0
  · rw [gI_ne _ _ _ _ (by omega)]; exact h.n1
  · rw [gI_ne _ _ _ _ (by omega)]; exact h.n2
  · rw [gI_ne _ _ _ _ (by omega)]; exact h.n3
  · by_cases e : k = c
    · subst e; rw [gI_same, pk_us]
    · rw [gI_ne _ _ _ _ (by omega), pk_un (by omega)]; exact h.still hk
  · rw [gI_ne _ _ _ _ (by omega), pk_un (by omega)]; exact h.at hk
  · rw [gI_ne _ _ _ _ (by omega), pk_un (by omega)]; exact h.pay hk
  · exact h.name hk
  · rw [gI_ne _ _ _ _ (by omega), pk_un (by omega)]; exact h.seat hk
  · rw [gI_ne _ _ _ _ (by omega), pk_un (by omega)]; exact h.served hk
  · rw [gI_ne _ _ _ _ (by omega), pk_un (by omega)]; exact h.grey hk
  · rw [gI_ne _ _ _ _ (by omega), pk_un (by omega)]; exact h.sham hk
  · rw [gI_ne _ _ _ _ (by omega), pk_un (by omega)]; exact h.paid hk
  · rw [gI_ne _ _ _ _ (by omega), pk_un (by omega)]; exact h.unpaid hk
  · rw [gI_ne _ _ _ _ (by omega), pk_un (by omega)]; exact h.sum hk
  · rw [gI_ne _ _ _ _ (by omega), pk_un (by omega)]; exact h.nerve hk
theorem Bi.set_still (h : Bi a nc nr nk nl) {c : Nat} (hc : c < nc) {v : Int32} (hv : ∃ o, o ≤ 9 ∧ v = nI o) : Bi (upd a (10 + c) v) nc nr nk nl := by
  have hn := h.cnt
  refine ⟨⟨?_, ?_, ?_, ?_⟩, h.cnt, ?_, ?_, fun k hk => ?_, fun k hk => ⟨?_, ?_⟩, fun k hk => ⟨?_, ?_, ?_⟩, fun j k hj hk e => ?_, fun k hk => ⟨?_, ?_⟩⟩
  · rw [pk_un (by omega)]; exact h.n0
  · rw [pk_un (by omega)]; exact h.n1
  · rw [pk_un (by omega)]; exact h.n2
  · rw [pk_un (by omega)]; exact h.n3
  · rw [pk_un (by omega)]; exact h.odds
  · rw [pk_un (by omega)]; exact h.cash
  · by_cases e : k = c
    · subst e; rw [pk_us]; exact hv
    · rw [pk_un (by omega)]; exact h.still hk
  · rw [pk_un (by omega)]; exact h.at hk
  · rw [pk_un (by omega)]; exact h.pay hk
  · rw [pk_un (by omega)]; exact h.seat hk
  · rw [pk_un (by omega)]; exact h.grey hk
  · rw [pk_un (by omega)]; exact h.sham hk
  · rw [pk_un (by omega), pk_un (by omega)] at e; exact h.apart hj hk e
  · rw [pk_un (by omega)]; exact h.sum hk
  · rw [pk_un (by omega)]; exact h.nerve hk
theorem Bq.set_seat (h : Bq w a nm nc nr nk nl) (hn : nc ≤ 7 ∧ nr ≤ 5 ∧ nk ≤ 6 ∧ nl ≤ 8) {c : Nat} (hc : c < nk) (v : Int32) : Bq (gI w 5 c v) (upd a (27 + 7 * c) v) nm nc nr nk nl := by
  refine ⟨⟨?_, ?_, ?_⟩, ⟨?_, ?_, ?_, ?_⟩, fun k hk => ?_, fun k hk => ⟨?_, ?_⟩, fun k hk => ?_, fun k hk => ⟨?_, ?_, ?_, ?_, ?_, ?_⟩, fun k hk => ⟨?_, ?_⟩⟩
  · rw [gI_ne _ _ _ _ (by omega), pk_un (by omega)]; exact h.odds
  · rw [gI_ne _ _ _ _ (by omega), pk_un (by omega)]; exact h.cash
  · rw [gI_ne _ _ _ _ (by omega), pk_un (by omega)]; exact h.year
  · rw [gI_ne _ _ _ _ (by omega)]; exact h.n0
  · rw [gI_ne _ _ _ _ (by omega)]; exact h.n1
  · rw [gI_ne _ _ _ _ (by omega)]; exact h.n2
  · rw [gI_ne _ _ _ _ (by omega)]; exact h.n3
  · rw [gI_ne _ _ _ _ (by omega), pk_un (by omega)]; exact h.still hk
  · rw [gI_ne _ _ _ _ (by omega), pk_un (by omega)]; exact h.at hk
  · rw [gI_ne _ _ _ _ (by omega), pk_un (by omega)]; exact h.pay hk
  · exact h.name hk
  · by_cases e : k = c
    · subst e; rw [gI_same, pk_us]
    · rw [gI_ne _ _ _ _ (by omega), pk_un (by omega)]; exact h.seat hk
  · rw [gI_ne _ _ _ _ (by omega), pk_un (by omega)]; exact h.served hk
  · rw [gI_ne _ _ _ _ (by omega), pk_un (by omega)]; exact h.grey hk
  · rw [gI_ne _ _ _ _ (by omega), pk_un (by omega)]; exact h.sham hk
  · rw [gI_ne _ _ _ _ (by omega), pk_un (by omega)]; exact h.paid hk
  · rw [gI_ne _ _ _ _ (by omega), pk_un (by omega)]; exact h.unpaid hk
  · rw [gI_ne _ _ _ _ (by omega), pk_un (by omega)]; exact h.sum hk
  · rw [gI_ne _ _ _ _ (by omega), pk_un (by omega)]; exact h.nerve hk
theorem Bi.set_seat (h : Bi a nc nr nk nl) {c : Nat} (hc : c < nk) {v : Int32} (hv : ∃ o, o < nc ∧ v = nI o) (hne : ∀ k, k < nk → k ≠ c → a (27 + 7 * k) ≠ v) : Bi (upd a (27 + 7 * c) v) nc nr nk nl := by
  have hn := h.cnt
  refine ⟨⟨?_, ?_, ?_, ?_⟩, h.cnt, ?_, ?_, fun k hk => ?_, fun k hk => ⟨?_, ?_⟩, fun k hk => ⟨?_, ?_, ?_⟩, fun j k hj hk e => ?_, fun k hk => ⟨?_, ?_⟩⟩
  · rw [pk_un (by omega)]; exact h.n0
  · rw [pk_un (by omega)]; exact h.n1
  · rw [pk_un (by omega)]; exact h.n2
  · rw [pk_un (by omega)]; exact h.n3
  · rw [pk_un (by omega)]; exact h.odds
  · rw [pk_un (by omega)]; exact h.cash
  · rw [pk_un (by omega)]; exact h.still hk
  · rw [pk_un (by omega)]; exact h.at hk
  · rw [pk_un (by omega)]; exact h.pay hk
  · by_cases e : k = c
    · subst e; rw [pk_us]; exact hv
    · rw [pk_un (by omega)]; exact h.seat hk
  · rw [pk_un (by omega)]; exact h.grey hk
  · rw [pk_un (by omega)]; exact h.sham hk
  · by_cases e1 : j = c
    · by_cases e2 : k = c
      · exact e1.trans e2.symm
      · rw [e1, pk_us, pk_un (by omega)] at e; exact absurd e.symm (hne k hk e2)
    · by_cases e2 : k = c
      · rw [e2, pk_us, pk_un (by omega)] at e; exact absurd e (hne j hj e1)
      · rw [pk_un (by omega), pk_un (by omega)] at e; exact h.apart hj hk e
  · rw [pk_un (by omega)]; exact h.sum hk
  · rw [pk_un (by omega)]; exact h.nerve hk
theorem Bq.set_served (h : Bq w a nm nc nr nk nl) (hn : nc ≤ 7 ∧ nr ≤ 5 ∧ nk ≤ 6 ∧ nl ≤ 8) {c : Nat} (hc : c < nk) (v : Int32) : Bq (gI w 6 c v) (upd a (27 + 7 * c + 1) v) nm nc nr nk nl := by
  refine ⟨⟨?_, ?_, ?_⟩, ⟨?_, ?_, ?_, ?_⟩, fun k hk => ?_, fun k hk => ⟨?_, ?_⟩, fun k hk => ?_, fun k hk => ⟨?_, ?_, ?_, ?_, ?_, ?_⟩, fun k hk => ⟨?_, ?_⟩⟩
  · rw [gI_ne _ _ _ _ (by omega), pk_un (by omega)]; exact h.odds
  · rw [gI_ne _ _ _ _ (by omega), pk_un (by omega)]; exact h.cash
  · rw [gI_ne _ _ _ _ (by omega), pk_un (by omega)]; exact h.year
  · rw [gI_ne _ _ _ _ (by omega)]; exact h.n0
  · rw [gI_ne _ _ _ _ (by omega)]; exact h.n1
  · rw [gI_ne _ _ _ _ (by omega)]; exact h.n2
  · rw [gI_ne _ _ _ _ (by omega)]; exact h.n3
  · rw [gI_ne _ _ _ _ (by omega), pk_un (by omega)]; exact h.still hk
  · rw [gI_ne _ _ _ _ (by omega), pk_un (by omega)]; exact h.at hk
  · rw [gI_ne _ _ _ _ (by omega), pk_un (by omega)]; exact h.pay hk
  · exact h.name hk
  · rw [gI_ne _ _ _ _ (by omega), pk_un (by omega)]; exact h.seat hk
  · by_cases e : k = c
    · subst e; rw [gI_same, pk_us]
    · rw [gI_ne _ _ _ _ (by omega), pk_un (by omega)]; exact h.served hk
  · rw [gI_ne _ _ _ _ (by omega), pk_un (by omega)]; exact h.grey hk
  · rw [gI_ne _ _ _ _ (by omega), pk_un (by omega)]; exact h.sham hk
  · rw [gI_ne _ _ _ _ (by omega), pk_un (by omega)]; exact h.paid hk
  · rw [gI_ne _ _ _ _ (by omega), pk_un (by omega)]; exact h.unpaid hk
  · rw [gI_ne _ _ _ _ (by omega), pk_un (by omega)]; exact h.sum hk
  · rw [gI_ne _ _ _ _ (by omega), pk_un (by omega)]; exact h.nerve hk
theorem Bi.set_served (h : Bi a nc nr nk nl) {c : Nat} (hc : c < nk) {v : Int32}  : Bi (upd a (27 + 7 * c + 1) v) nc nr nk nl := by
  have hn := h.cnt
  refine ⟨⟨?_, ?_, ?_, ?_⟩, h.cnt, ?_, ?_, fun k hk => ?_, fun k hk => ⟨?_, ?_⟩, fun k hk => ⟨?_, ?_, ?_⟩, fun j k hj hk e => ?_, fun k hk => ⟨?_, ?_⟩⟩
  · rw [pk_un (by omega)]; exact h.n0
  · rw [pk_un (by omega)]; exact h.n1
  · rw [pk_un (by omega)]; exact h.n2
  · rw [pk_un (by omega)]; exact h.n3
  · rw [pk_un (by omega)]; exact h.odds
  · rw [pk_un (by omega)]; exact h.cash
  · rw [pk_un (by omega)]; exact h.still hk
  · rw [pk_un (by omega)]; exact h.at hk
  · rw [pk_un (by omega)]; exact h.pay hk
  · rw [pk_un (by omega)]; exact h.seat hk
  · rw [pk_un (by omega)]; exact h.grey hk
  · rw [pk_un (by omega)]; exact h.sham hk
  · rw [pk_un (by omega), pk_un (by omega)] at e; exact h.apart hj hk e
  · rw [pk_un (by omega)]; exact h.sum hk
  · rw [pk_un (by omega)]; exact h.nerve hk
theorem Bq.set_grey (h : Bq w a nm nc nr nk nl) (hn : nc ≤ 7 ∧ nr ≤ 5 ∧ nk ≤ 6 ∧ nl ≤ 8) {c : Nat} (hc : c < nk) (v : Int32) : Bq (gI w 7 c v) (upd a (27 + 7 * c + 2) v) nm nc nr nk nl := by
  refine ⟨⟨?_, ?_, ?_⟩, ⟨?_, ?_, ?_, ?_⟩, fun k hk => ?_, fun k hk => ⟨?_, ?_⟩, fun k hk => ?_, fun k hk => ⟨?_, ?_, ?_, ?_, ?_, ?_⟩, fun k hk => ⟨?_, ?_⟩⟩
  · rw [gI_ne _ _ _ _ (by omega), pk_un (by omega)]; exact h.odds
  · rw [gI_ne _ _ _ _ (by omega), pk_un (by omega)]; exact h.cash
  · rw [gI_ne _ _ _ _ (by omega), pk_un (by omega)]; exact h.year
  · rw [gI_ne _ _ _ _ (by omega)]; exact h.n0
  · rw [gI_ne _ _ _ _ (by omega)]; exact h.n1
  · rw [gI_ne _ _ _ _ (by omega)]; exact h.n2
  · rw [gI_ne _ _ _ _ (by omega)]; exact h.n3
  · rw [gI_ne _ _ _ _ (by omega), pk_un (by omega)]; exact h.still hk
  · rw [gI_ne _ _ _ _ (by omega), pk_un (by omega)]; exact h.at hk
  · rw [gI_ne _ _ _ _ (by omega), pk_un (by omega)]; exact h.pay hk
  · exact h.name hk
  · rw [gI_ne _ _ _ _ (by omega), pk_un (by omega)]; exact h.seat hk
  · rw [gI_ne _ _ _ _ (by omega), pk_un (by omega)]; exact h.served hk
  · by_cases e : k = c
    · subst e; rw [gI_same, pk_us]
    · rw [gI_ne _ _ _ _ (by omega), pk_un (by omega)]; exact h.grey hk
  · rw [gI_ne _ _ _ _ (by omega), pk_un (by omega)]; exact h.sham hk
  · rw [gI_ne _ _ _ _ (by omega), pk_un (by omega)]; exact h.paid hk
  · rw [gI_ne _ _ _ _ (by omega), pk_un (by omega)]; exact h.unpaid hk
  · rw [gI_ne _ _ _ _ (by omega), pk_un (by omega)]; exact h.sum hk
  · rw [gI_ne _ _ _ _ (by omega), pk_un (by omega)]; exact h.nerve hk
theorem Bi.set_grey (h : Bi a nc nr nk nl) {c : Nat} (hc : c < nk) {v : Int32} (hv : ∃ o, o ≤ 99 ∧ v = nI o) : Bi (upd a (27 + 7 * c + 2) v) nc nr nk nl := by
  have hn := h.cnt
  refine ⟨⟨?_, ?_, ?_, ?_⟩, h.cnt, ?_, ?_, fun k hk => ?_, fun k hk => ⟨?_, ?_⟩, fun k hk => ⟨?_, ?_, ?_⟩, fun j k hj hk e => ?_, fun k hk => ⟨?_, ?_⟩⟩
  · rw [pk_un (by omega)]; exact h.n0
  · rw [pk_un (by omega)]; exact h.n1
  · rw [pk_un (by omega)]; exact h.n2
  · rw [pk_un (by omega)]; exact h.n3
  · rw [pk_un (by omega)]; exact h.odds
  · rw [pk_un (by omega)]; exact h.cash
  · rw [pk_un (by omega)]; exact h.still hk
  · rw [pk_un (by omega)]; exact h.at hk
  · rw [pk_un (by omega)]; exact h.pay hk
  · rw [pk_un (by omega)]; exact h.seat hk
  · by_cases e : k = c
    · subst e; rw [pk_us]; exact hv
    · rw [pk_un (by omega)]; exact h.grey hk
  · rw [pk_un (by omega)]; exact h.sham hk
  · rw [pk_un (by omega), pk_un (by omega)] at e; exact h.apart hj hk e
  · rw [pk_un (by omega)]; exact h.sum hk
  · rw [pk_un (by omega)]; exact h.nerve hk
theorem Bq.set_sham (h : Bq w a nm nc nr nk nl) (hn : nc ≤ 7 ∧ nr ≤ 5 ∧ nk ≤ 6 ∧ nl ≤ 8) {c : Nat} (hc : c < nk) (v : Int32) : Bq (gI w 8 c v) (upd a (27 + 7 * c + 3) v) nm nc nr nk nl := by
  refine ⟨⟨?_, ?_, ?_⟩, ⟨?_, ?_, ?_, ?_⟩, fun k hk => ?_, fun k hk => ⟨?_, ?_⟩, fun k hk => ?_, fun k hk => ⟨?_, ?_, ?_, ?_, ?_, ?_⟩, fun k hk => ⟨?_, ?_⟩⟩
  · rw [gI_ne _ _ _ _ (by omega), pk_un (by omega)]; exact h.odds
  · rw [gI_ne _ _ _ _ (by omega), pk_un (by omega)]; exact h.cash
  · rw [gI_ne _ _ _ _ (by omega), pk_un (by omega)]; exact h.year
  · rw [gI_ne _ _ _ _ (by omega)]; exact h.n0
  · rw [gI_ne _ _ _ _ (by omega)]; exact h.n1
  · rw [gI_ne _ _ _ _ (by omega)]; exact h.n2
  · rw [gI_ne _ _ _ _ (by omega)]; exact h.n3
  · rw [gI_ne _ _ _ _ (by omega), pk_un (by omega)]; exact h.still hk
  · rw [gI_ne _ _ _ _ (by omega), pk_un (by omega)]; exact h.at hk
  · rw [gI_ne _ _ _ _ (by omega), pk_un (by omega)]; exact h.pay hk
  · exact h.name hk
  · rw [gI_ne _ _ _ _ (by omega), pk_un (by omega)]; exact h.seat hk
  · rw [gI_ne _ _ _ _ (by omega), pk_un (by omega)]; exact h.served hk
  · rw [gI_ne _ _ _ _ (by omega), pk_un (by omega)]; exact h.grey hk
  · by_cases e : k = c
    · subst e; rw [gI_same, pk_us]
    · rw [gI_ne _ _ _ _ (by omega), pk_un (by omega)]; exact h.sham hk
  · rw [gI_ne _ _ _ _ (by omega), pk_un (by omega)]; exact h.paid hk
  · rw [gI_ne _ _ _ _ (by omega), pk_un (by omega)]; exact h.unpaid hk
  · rw [gI_ne _ _ _ _ (by omega), pk_un (by omega)]; exact h.sum hk
  · rw [gI_ne _ _ _ _ (by omega), pk_un (by omega)]; exact h.nerve hk
theorem Bi.set_sham (h : Bi a nc nr nk nl) {c : Nat} (hc : c < nk) {v : Int32} (hv : ∃ o, o ≤ 99 ∧ v = nI o) : Bi (upd a (27 + 7 * c + 3) v) nc nr nk nl := by
  have hn := h.cnt
  refine ⟨⟨?_, ?_, ?_, ?_⟩, h.cnt, ?_, ?_, fun k hk => ?_, fun k hk => ⟨?_, ?_⟩, fun k hk => ⟨?_, ?_, ?_⟩, fun j k hj hk e => ?_, fun k hk => ⟨?_, ?_⟩⟩
  · rw [pk_un (by omega)]; exact h.n0
  · rw [pk_un (by omega)]; exact h.n1
  · rw [pk_un (by omega)]; exact h.n2
  · rw [pk_un (by omega)]; exact h.n3
  · rw [pk_un (by omega)]; exact h.odds
  · rw [pk_un (by omega)]; exact h.cash
  · rw [pk_un (by omega)]; exact h.still hk
  · rw [pk_un (by omega)]; exact h.at hk
  · rw [pk_un (by omega)]; exact h.pay hk
  · rw [pk_un (by omega)]; exact h.seat hk
  · rw [pk_un (by omega)]; exact h.grey hk
  · by_cases e : k = c
    · subst e; rw [pk_us]; exact hv
    · rw [pk_un (by omega)]; exact h.sham hk
  · rw [pk_un (by omega), pk_un (by omega)] at e; exact h.apart hj hk e
  · rw [pk_un (by omega)]; exact h.sum hk
  · rw [pk_un (by omega)]; exact h.nerve hk
theorem Bq.set_paid (h : Bq w a nm nc nr nk nl) (hn : nc ≤ 7 ∧ nr ≤ 5 ∧ nk ≤ 6 ∧ nl ≤ 8) {c : Nat} (hc : c < nk) (v : Int32) : Bq (gI w 9 c v) (upd a (27 + 7 * c + 5) v) nm nc nr nk nl := by
  refine ⟨⟨?_, ?_, ?_⟩, ⟨?_, ?_, ?_, ?_⟩, fun k hk => ?_, fun k hk => ⟨?_, ?_⟩, fun k hk => ?_, fun k hk => ⟨?_, ?_, ?_, ?_, ?_, ?_⟩, fun k hk => ⟨?_, ?_⟩⟩
  · rw [gI_ne _ _ _ _ (by omega), pk_un (by omega)]; exact h.odds
  · rw [gI_ne _ _ _ _ (by omega), pk_un (by omega)]; exact h.cash
  · rw [gI_ne _ _ _ _ (by omega), pk_un (by omega)]; exact h.year
  · rw [gI_ne _ _ _ _ (by omega)]; exact h.n0
  · rw [gI_ne _ _ _ _ (by omega)]; exact h.n1
  · rw [gI_ne _ _ _ _ (by omega)]; exact h.n2
  · rw [gI_ne _ _ _ _ (by omega)]; exact h.n3
  · rw [gI_ne _ _ _ _ (by omega), pk_un (by omega)]; exact h.still hk
  · rw [gI_ne _ _ _ _ (by omega), pk_un (by omega)]; exact h.at hk
  · rw [gI_ne _ _ _ _ (by omega), pk_un (by omega)]; exact h.pay hk
  · exact h.name hk
  · rw [gI_ne _ _ _ _ (by omega), pk_un (by omega)]; exact h.seat hk
  · rw [gI_ne _ _ _ _ (by omega), pk_un (by omega)]; exact h.served hk
  · rw [gI_ne _ _ _ _ (by omega), pk_un (by omega)]; exact h.grey hk
  · rw [gI_ne _ _ _ _ (by omega), pk_un (by omega)]; exact h.sham hk
  · by_cases e : k = c
    · subst e; rw [gI_same, pk_us]
    · rw [gI_ne _ _ _ _ (by omega), pk_un (by omega)]; exact h.paid hk
  · rw [gI_ne _ _ _ _ (by omega), pk_un (by omega)]; exact h.unpaid hk
  · rw [gI_ne _ _ _ _ (by omega), pk_un (by omega)]; exact h.sum hk
  · rw [gI_ne _ _ _ _ (by omega), pk_un (by omega)]; exact h.nerve hk
theorem Bi.set_paid (h : Bi a nc nr nk nl) {c : Nat} (hc : c < nk) {v : Int32}  : Bi (upd a (27 + 7 * c + 5) v) nc nr nk nl := by
  have hn := h.cnt
  refine ⟨⟨?_, ?_, ?_, ?_⟩, h.cnt, ?_, ?_, fun k hk => ?_, fun k hk => ⟨?_, ?_⟩, fun k hk => ⟨?_, ?_, ?_⟩, fun j k hj hk e => ?_, fun k hk => ⟨?_, ?_⟩⟩
  · rw [pk_un (by omega)]; exact h.n0
  · rw [pk_un (by omega)]; exact h.n1
  · rw [pk_un (by omega)]; exact h.n2
  · rw [pk_un (by omega)]; exact h.n3
  · rw [pk_un (by omega)]; exact h.odds
  · rw [pk_un (by omega)]; exact h.cash
  · rw [pk_un (by omega)]; exact h.still hk
  · rw [pk_un (by omega)]; exact h.at hk
  · rw [pk_un (by omega)]; exact h.pay hk
  · rw [pk_un (by omega)]; exact h.seat hk
  · rw [pk_un (by omega)]; exact h.grey hk
  · rw [pk_un (by omega)]; exact h.sham hk
  · rw [pk_un (by omega), pk_un (by omega)] at e; exact h.apart hj hk e
  · rw [pk_un (by omega)]; exact h.sum hk
  · rw [pk_un (by omega)]; exact h.nerve hk
theorem Bq.set_unpaid (h : Bq w a nm nc nr nk nl) (hn : nc ≤ 7 ∧ nr ≤ 5 ∧ nk ≤ 6 ∧ nl ≤ 8) {c : Nat} (hc : c < nk) (v : Int32) : Bq (gI w 10 c v) (upd a (27 + 7 * c + 6) v) nm nc nr nk nl := by
  refine ⟨⟨?_, ?_, ?_⟩, ⟨?_, ?_, ?_, ?_⟩, fun k hk => ?_, fun k hk => ⟨?_, ?_⟩, fun k hk => ?_, fun k hk => ⟨?_, ?_, ?_, ?_, ?_, ?_⟩, fun k hk => ⟨?_, ?_⟩⟩
  · rw [gI_ne _ _ _ _ (by omega), pk_un (by omega)]; exact h.odds
  · rw [gI_ne _ _ _ _ (by omega), pk_un (by omega)]; exact h.cash
  · rw [gI_ne _ _ _ _ (by omega), pk_un (by omega)]; exact h.year
  · rw [gI_ne _ _ _ _ (by omega)]; exact h.n0
  · rw [gI_ne _ _ _ _ (by omega)]; exact h.n1
  · rw [gI_ne _ _ _ _ (by omega)]; exact h.n2
  · rw [gI_ne _ _ _ _ (by omega)]; exact h.n3
  · rw [gI_ne _ _ _ _ (by omega), pk_un (by omega)]; exact h.still hk
  · rw [gI_ne _ _ _ _ (by omega), pk_un (by omega)]; exact h.at hk
  · rw [gI_ne _ _ _ _ (by omega), pk_un (by omega)]; exact h.pay hk
  · exact h.name hk
  · rw [gI_ne _ _ _ _ (by omega), pk_un (by omega)]; exact h.seat hk
  · rw [gI_ne _ _ _ _ (by omega), pk_un (by omega)]; exact h.served hk
  · rw [gI_ne _ _ _ _ (by omega), pk_un (by omega)]; exact h.grey hk
  · rw [gI_ne _ _ _ _ (by omega), pk_un (by omega)]; exact h.sham hk
  · rw [gI_ne _ _ _ _ (by omega), pk_un (by omega)]; exact h.paid hk
  · by_cases e : k = c
    · subst e; rw [gI_same, pk_us]
    · rw [gI_ne _ _ _ _ (by omega), pk_un (by omega)]; exact h.unpaid hk
  · rw [gI_ne _ _ _ _ (by omega), pk_un (by omega)]; exact h.sum hk
  · rw [gI_ne _ _ _ _ (by omega), pk_un (by omega)]; exact h.nerve hk
theorem Bi.set_unpaid (h : Bi a nc nr nk nl) {c : Nat} (hc : c < nk) {v : Int32}  : Bi (upd a (27 + 7 * c + 6) v) nc nr nk nl := by
  have hn := h.cnt
  refine ⟨⟨?_, ?_, ?_, ?_⟩, h.cnt, ?_, ?_, fun k hk => ?_, fun k hk => ⟨?_, ?_⟩, fun k hk => ⟨?_, ?_, ?_⟩, fun j k hj hk e => ?_, fun k hk => ⟨?_, ?_⟩⟩
  · rw [pk_un (by omega)]; exact h.n0
  · rw [pk_un (by omega)]; exact h.n1
  · rw [pk_un (by omega)]; exact h.n2
  · rw [pk_un (by omega)]; exact h.n3
  · rw [pk_un (by omega)]; exact h.odds
  · rw [pk_un (by omega)]; exact h.cash
  · rw [pk_un (by omega)]; exact h.still hk
  · rw [pk_un (by omega)]; exact h.at hk
  · rw [pk_un (by omega)]; exact h.pay hk
  · rw [pk_un (by omega)]; exact h.seat hk
  · rw [pk_un (by omega)]; exact h.grey hk
  · rw [pk_un (by omega)]; exact h.sham hk
  · rw [pk_un (by omega), pk_un (by omega)] at e; exact h.apart hj hk e
  · rw [pk_un (by omega)]; exact h.sum hk
  · rw [pk_un (by omega)]; exact h.nerve hk
end
