/-! A bank grows by a corner, a rank, a client. -/
section
variable {w : GW} {a : Nat → Int32} {nm : Nat → Int64} {nc nr nk nl : Nat}
theorem Bq.crn (h : Bq w a nm nc nr nk nl) (hn : nc ≤ 7 ∧ nr ≤ 5 ∧ nk ≤ 6 ∧ nl ≤ 8) (hc : nc < 7) (v : Int32) : Bq (gI (gI w 1 nc v) 0 3 (nI (nc + 1))) (upd (upd a (10 + nc) v) 0 (nI (nc + 1))) nm (nc + 1) nr nk nl := by
  refine ⟨⟨?_, ?_, ?_⟩, ⟨?_, ?_, ?_, ?_⟩, fun k hk => ?_, fun k hk => ⟨?_, ?_⟩, fun k hk => ?_, fun k hk => ⟨?_, ?_, ?_, ?_, ?_, ?_⟩, fun k hk => ⟨?_, ?_⟩⟩
  · simp (disch := omega) only [gI_ne, pk_un]; exact h.odds
  · simp (disch := omega) only [gI_ne, pk_un]; exact h.cash
  · simp (disch := omega) only [gI_ne, pk_un]; exact h.year
  · exact gI_same _ _ _ _
  · simp (disch := omega) only [gI_ne, pk_un]; exact h.n1
  · simp (disch := omega) only [gI_ne, pk_un]; exact h.n2
  · simp (disch := omega) only [gI_ne, pk_un]; exact h.n3
  · by_cases e : k = nc
    · subst e; rw [gI_ne _ _ _ _ (by omega), gI_same, pk_un (by omega), pk_us]
    · simp (disch := omega) only [gI_ne, pk_un]; exact h.still (by omega)
  · simp (disch := omega) only [gI_ne, pk_un]; exact h.at hk
  · simp (disch := omega) only [gI_ne, pk_un]; exact h.pay hk
  · exact h.name hk
  · simp (disch := omega) only [gI_ne, pk_un]; exact h.seat hk
  · simp (disch := omega) only [gI_ne, pk_un]; exact h.served hk
  · simp (disch := omega) only [gI_ne, pk_un]; exact h.grey hk
  · simp (disch := omega) only [gI_ne, pk_un]; exact h.sham hk
  · simp (disch := omega) only [gI_ne, pk_un]; exact h.paid hk
  · simp (disch := omega) only [gI_ne, pk_un]; exact h.unpaid hk
  · simp (disch := omega) only [gI_ne, pk_un]; exact h.sum hk
  · simp (disch := omega) only [gI_ne, pk_un]; exact h.nerve hk
theorem Bi.crn (hi : Bi a nc nr nk nl) (hc : nc < 7) {s : Nat} (hs : s ≤ 9) : Bi (upd (upd a (10 + nc) (nI s)) 0 (nI (nc + 1))) (nc + 1) nr nk nl := by
  have hn := hi.cnt
  refine ⟨⟨?_, ?_, ?_, ?_⟩, ⟨by omega, hn.2.1, hn.2.2.1, hn.2.2.2⟩, ?_, ?_, fun k hk => ?_, fun k hk => ⟨?_, ?_⟩, fun k hk => ⟨?_, ?_, ?_⟩, fun j k hj hk e => ?_, fun k hk => ⟨?_, ?_⟩⟩
  · rw [pk_us]
  · simp (disch := omega) only [pk_un]; exact hi.n1
  · simp (disch := omega) only [pk_un]; exact hi.n2
  · simp (disch := omega) only [pk_un]; exact hi.n3
  · simp (disch := omega) only [pk_un]; exact hi.odds
  · simp (disch := omega) only [pk_un]; exact hi.cash
  · by_cases e : k = nc
    · subst e; rw [pk_un (by omega), pk_us]; exact ⟨s, hs, rfl⟩
    · simp (disch := omega) only [pk_un]; exact hi.still (by omega)
  · simp (disch := omega) only [pk_un]; exact hi.at hk
  · simp (disch := omega) only [pk_un]; exact hi.pay hk
  · simp (disch := omega) only [pk_un]
    obtain ⟨t, t1, t2⟩ := hi.seat hk
    exact ⟨t, by omega, t2⟩
  · simp (disch := omega) only [pk_un]; exact hi.grey hk
  · simp (disch := omega) only [pk_un]; exact hi.sham hk
  · simp (disch := omega) only [pk_un] at e; exact hi.apart hj hk e
  · simp (disch := omega) only [pk_un]; exact hi.sum hk
  · simp (disch := omega) only [pk_un]; exact hi.nerve hk
theorem Bq.rnk (h : Bq w a nm nc nr nk nl) (hn : nc ≤ 7 ∧ nr ≤ 5 ∧ nk ≤ 6 ∧ nl ≤ 8) (hc : nr < 5) (u v : Int32) : Bq (gI (gI (gI w 2 nr u) 3 nr v) 0 4 (nI (nr + 1))) (upd (upd (upd a (17 + 2 * nr) u) (17 + 2 * nr + 1) v) 1 (nI (nr + 1))) nm nc (nr + 1) nk nl := by
  refine ⟨⟨?_, ?_, ?_⟩, ⟨?_, ?_, ?_, ?_⟩, fun k hk => ?_, fun k hk => ⟨?_, ?_⟩, fun k hk => ?_, fun k hk => ⟨?_, ?_, ?_, ?_, ?_, ?_⟩, fun k hk => ⟨?_, ?_⟩⟩
  · simp (disch := omega) only [gI_ne, pk_un]; exact h.odds
  · simp (disch := omega) only [gI_ne, pk_un]; exact h.cash
  · simp (disch := omega) only [gI_ne, pk_un]; exact h.year
  · simp (disch := omega) only [gI_ne, pk_un]; exact h.n0
  · exact gI_same _ _ _ _
  · simp (disch := omega) only [gI_ne, pk_un]; exact h.n2
  · simp (disch := omega) only [gI_ne, pk_un]; exact h.n3
  · simp (disch := omega) only [gI_ne, pk_un]; exact h.still hk
  · by_cases e : k = nr
    · subst e; rw [gI_ne _ _ _ _ (by omega), gI_ne _ _ _ _ (by omega), gI_same, pk_un (by omega), pk_un (by omega), pk_us]
    · simp (disch := omega) only [gI_ne, pk_un]; exact h.at (by omega)
  · by_cases e : k = nr
    · subst e; rw [gI_ne _ _ _ _ (by omega), gI_same, pk_un (by omega), pk_us]
    · simp (disch := omega) only [gI_ne, pk_un]; exact h.pay (by omega)
  · exact h.name hk
  · simp (disch := omega) only [gI_ne, pk_un]; exact h.seat hk
  · simp (disch := omega) only [gI_ne, pk_un]; exact h.served hk
  · simp (disch := omega) only [gI_ne, pk_un]; exact h.grey hk
  · simp (disch := omega) only [gI_ne, pk_un]; exact h.sham hk
  · simp (disch := omega) only [gI_ne, pk_un]; exact h.paid hk
  · simp (disch := omega) only [gI_ne, pk_un]; exact h.unpaid hk
  · simp (disch := omega) only [gI_ne, pk_un]; exact h.sum hk
  · simp (disch := omega) only [gI_ne, pk_un]; exact h.nerve hk
theorem Bi.rnk (hi : Bi a nc nr nk nl) (hc : nr < 5) {u v : Nat} (hu : u ≤ 99) (hv : v ≤ 50) : Bi (upd (upd (upd a (17 + 2 * nr) (nI u)) (17 + 2 * nr + 1) (nI v)) 1 (nI (nr + 1))) nc (nr + 1) nk nl := by
  have hn := hi.cnt
  refine ⟨⟨?_, ?_, ?_, ?_⟩, ⟨hn.1, by omega, hn.2.2.1, hn.2.2.2⟩, ?_, ?_, fun k hk => ?_, fun k hk => ⟨?_, ?_⟩, fun k hk => ⟨?_, ?_, ?_⟩, fun j k hj hk e => ?_, fun k hk => ⟨?_, ?_⟩⟩
  · simp (disch := omega) only [pk_un]; exact hi.n0
  · rw [pk_us]
  · simp (disch := omega) only [pk_un]; exact hi.n2
  · simp (disch := omega) only [pk_un]; exact hi.n3
  · simp (disch := omega) only [pk_un]; exact hi.odds
  · simp (disch := omega) only [pk_un]; exact hi.cash
  · simp (disch := omega) only [pk_un]; exact hi.still hk
  · by_cases e : k = nr
    · subst e; rw [pk_un (by omega), pk_un (by omega), pk_us]; exact ⟨u, hu, rfl⟩
    · simp (disch := omega) only [pk_un]; exact hi.at (by omega)
  · by_cases e : k = nr
    · subst e; rw [pk_un (by omega), pk_us]; exact ⟨v, hv, rfl⟩
    · simp (disch := omega) only [pk_un]; exact hi.pay (by omega)
  · simp (disch := omega) only [pk_un]; exact hi.seat hk
  · simp (disch := omega) only [pk_un]; exact hi.grey hk
  · simp (disch := omega) only [pk_un]; exact hi.sham hk
  · simp (disch := omega) only [pk_un] at e; exact hi.apart hj hk e
  · simp (disch := omega) only [pk_un]; exact hi.sum hk
  · simp (disch := omega) only [pk_un]; exact hi.nerve hk
theorem Bq.cli (h : Bq w a nm nc nr nk nl) (hn : nc ≤ 7 ∧ nr ≤ 5 ∧ nk ≤ 6 ∧ nl ≤ 8) (hc : nl < 8) (u v : Int32) : Bq (gI (gI (gI w 11 nl u) 12 nl v) 0 6 (nI (nl + 1))) (upd (upd (upd a (69 + 2 * nl) u) (69 + 2 * nl + 1) v) 3 (nI (nl + 1))) nm nc nr nk (nl + 1) := by
  refine ⟨⟨?_, ?_, ?_⟩, ⟨?_, ?_, ?_, ?_⟩, fun k hk => ?_, fun k hk => ⟨?_, ?_⟩, fun k hk => ?_, fun k hk => ⟨?_, ?_, ?_, ?_, ?_, ?_⟩, fun k hk => ⟨?_, ?_⟩⟩
  · simp (disch := omega) only [gI_ne, pk_un]; exact h.odds
  · simp (disch := omega) only [gI_ne, pk_un]; exact h.cash
  · simp (disch := omega) only [gI_ne, pk_un]; exact h.year
  · simp (disch := omega) only [gI_ne, pk_un]; exact h.n0
  · simp (disch := omega) only [gI_ne, pk_un]; exact h.n1
  · simp (disch := omega) only [gI_ne, pk_un]; exact h.n2
  · exact gI_same _ _ _ _
  · simp (disch := omega) only [gI_ne, pk_un]; exact h.still hk
  · simp (disch := omega) only [gI_ne, pk_un]; exact h.at hk
  · simp (disch := omega) only [gI_ne, pk_un]; exact h.pay hk
  · exact h.name hk
  · simp (disch := omega) only [gI_ne, pk_un]; exact h.seat hk
  · simp (disch := omega) only [gI_ne, pk_un]; exact h.served hk
  · simp (disch := omega) only [gI_ne, pk_un]; exact h.grey hk
  · simp (disch := omega) only [gI_ne, pk_un]; exact h.sham hk
  · simp (disch := omega) only [gI_ne, pk_un]; exact h.paid hk
  · simp (disch := omega) only [gI_ne, pk_un]; exact h.unpaid hk
  · by_cases e : k = nl
    · subst e; rw [gI_ne _ _ _ _ (by omega), gI_ne _ _ _ _ (by omega), gI_same, pk_un (by omega), pk_un (by omega), pk_us]
    · simp (disch := omega) only [gI_ne, pk_un]; exact h.sum (by omega)
  · by_cases e : k = nl
    · subst e; rw [gI_ne _ _ _ _ (by omega), gI_same, pk_un (by omega), pk_us]
    · simp (disch := omega) only [gI_ne, pk_un]; exact h.nerve (by omega)
theorem Bi.cli (hi : Bi a nc nr nk nl) (hc : nl < 8) {u v : Nat} (hu : 1 ≤ u ∧ u ≤ 99) (hv : v ≤ 999) : Bi (upd (upd (upd a (69 + 2 * nl) (nI u)) (69 + 2 * nl + 1) (nI v)) 3 (nI (nl + 1))) nc nr nk (nl + 1) := by
  have hn := hi.cnt
  refine ⟨⟨?_, ?_, ?_, ?_⟩, ⟨hn.1, hn.2.1, hn.2.2.1, by omega⟩, ?_, ?_, fun k hk => ?_, fun k hk => ⟨?_, ?_⟩, fun k hk => ⟨?_, ?_, ?_⟩, fun j k hj hk e => ?_, fun k hk => ⟨?_, ?_⟩⟩
  · simp (disch := omega) only [pk_un]; exact hi.n0
  · simp (disch := omega) only [pk_un]; exact hi.n1
  · simp (disch := omega) only [pk_un]; exact hi.n2
  · rw [pk_us]
  · simp (disch := omega) only [pk_un]; exact hi.odds
  · simp (disch := omega) only [pk_un]; exact hi.cash
  · simp (disch := omega) only [pk_un]; exact hi.still hk
  · simp (disch := omega) only [pk_un]; exact hi.at hk
  · simp (disch := omega) only [pk_un]; exact hi.pay hk
  · simp (disch := omega) only [pk_un]; exact hi.seat hk
  · simp (disch := omega) only [pk_un]; exact hi.grey hk
  · simp (disch := omega) only [pk_un]; exact hi.sham hk
  · simp (disch := omega) only [pk_un] at e; exact hi.apart hj hk e
  · by_cases e : k = nl
    · subst e; rw [pk_un (by omega), pk_un (by omega), pk_us]; exact ⟨u, hu.1, hu.2, rfl⟩
    · simp (disch := omega) only [pk_un]; exact hi.sum (by omega)
  · by_cases e : k = nl
    · subst e; rw [pk_un (by omega), pk_us]; exact ⟨v, hv, rfl⟩
    · simp (disch := omega) only [pk_un]; exact hi.nerve (by omega)
end
