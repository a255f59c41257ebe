/-! The tape is fed; what was lived is told. -/
def pX (u : GW) (b : Nat → Int32) (f : Int32) : GW := (fun i => if i = 1 then b else if i = 0 then upd (u.1 0) 0 f else u.1 i, u.2)
def pY (m : GW) (b : Nat → Int32) (f : Int32) : GW := (fun i => if i = 6 then b else if i = 0 then upd (m.1 0) 10 f else m.1 i, m.2)
theorem gI_pX (u : GW) (b : Nat → Int32) (f : Int32) (k : Nat) (v g : Int32) : gI (gI (pX u b f) 1 k v) 0 0 g = pX u (upd b k v) g := by
  refine Prod.ext (funext fun i => funext fun q => ?_) rfl
  by_cases h1 : i = 1
  · subst h1
    show (if 1 = 0 ∧ q = 0 then g else if 1 = 1 ∧ q = k then v else b q) = (if q = k then v else b q)
    rw [if_neg (by omega)]
    by_cases e : q = k
    · rw [if_pos ⟨rfl, e⟩, if_pos e]
    · rw [if_neg (fun z => e z.2), if_neg e]
  by_cases h0 : i = 0
  · subst h0
    show (if 0 = 0 ∧ q = 0 then g else if 0 = 1 ∧ q = k then v else upd (u.1 0) 0 f q) = upd (u.1 0) 0 g q
    by_cases e : q = 0
    · rw [if_pos ⟨rfl, e⟩, e, pk_us]
    · rw [if_neg (fun z => e z.2), if_neg (by omega), pk_un e, pk_un e]
  show (if i = 0 ∧ q = 0 then g else if i = 1 ∧ q = k then v else (if i = 1 then b else if i = 0 then upd (u.1 0) 0 f else u.1 i) q) = (if i = 1 then upd b k v else if i = 0 then upd (u.1 0) 0 g else u.1 i) q
  rw [if_neg (fun z => h0 z.1), if_neg (fun z => h1 z.1)]
  simp only [h1, h0, if_false]
theorem gI_pY (m : GW) (b : Nat → Int32) (f : Int32) (k : Nat) (v g : Int32) : gI (gI (pY m b f) 6 k v) 0 10 g = pY m (upd b k v) g := by
  refine Prod.ext (funext fun i => funext fun q => ?_) rfl
  by_cases h1 : i = 6
  · subst h1
    show (if 6 = 0 ∧ q = 10 then g else if 6 = 6 ∧ q = k then v else b q) = (if q = k then v else b q)
    rw [if_neg (by omega)]
    by_cases e : q = k
    · rw [if_pos ⟨rfl, e⟩, if_pos e]
    · rw [if_neg (fun z => e z.2), if_neg e]
  by_cases h0 : i = 0
  · subst h0
    show (if 0 = 0 ∧ q = 10 then g else if 0 = 6 ∧ q = k then v else upd (m.1 0) 10 f q) = upd (m.1 0) 10 g q
    by_cases e : q = 10
    · rw [if_pos ⟨rfl, e⟩, e, pk_us]
    · rw [if_neg (fun z => e z.2), if_neg (by omega), pk_un e, pk_un e]
  show (if i = 0 ∧ q = 10 then g else if i = 6 ∧ q = k then v else (if i = 6 then b else if i = 0 then upd (m.1 0) 10 f else m.1 i) q) = (if i = 6 then upd b k v else if i = 0 then upd (m.1 0) 10 g else m.1 i) q
  rw [if_neg (fun z => h0 z.1), if_neg (fun z => h1 z.1)]
  simp only [h1, h0, if_false]
theorem pX_id (u : GW) : pX u (u.1 1) (u.1 0 0) = u := by
  refine Prod.ext (funext fun i => funext fun q => ?_) rfl
  by_cases h1 : i = 1
  · subst h1; rfl
  by_cases h0 : i = 0
  · subst h0
    show upd (u.1 0) 0 (u.1 0 0) q = u.1 0 q
    by_cases e : q = 0
    · rw [e, pk_us]
    · rw [pk_un e]
  show (if i = 1 then u.1 1 else if i = 0 then upd (u.1 0) 0 (u.1 0 0) else u.1 i) q = u.1 i q
  simp only [h1, h0, if_false]
theorem pY_id (m : GW) : pY m (m.1 6) (m.1 0 10) = m := by
  refine Prod.ext (funext fun i => funext fun q => ?_) rfl
  by_cases h1 : i = 6
  · subst h1; rfl
  by_cases h0 : i = 0
  · subst h0
    show upd (m.1 0) 10 (m.1 0 10) q = m.1 0 q
    by_cases e : q = 10
    · rw [e, pk_us]
    · rw [pk_un e]
  show (if i = 6 then m.1 6 else if i = 0 then upd (m.1 0) 10 (m.1 0 10) else m.1 i) q = m.1 i q
  simp only [h1, h0, if_false]
theorem pX_0 (u : GW) (b : Nat → Int32) (f : Int32) : (pX u b f).1 0 0 = f := by
  show upd (u.1 0) 0 f 0 = f
  exact pk_us
theorem pY_10 (u : GW) (b : Nat → Int32) (f : Int32) : (pY u b f).1 0 10 = f := by
  show upd (u.1 0) 10 f 10 = f
  exact pk_us
/-- the byte that is fed -/
def byB (v s : Int32) : Int32 := vp_nar .byte (v >>> (s &&& 31)).toInt8.toInt32
theorem byB_byte (v s : Int32) : ∃ b : Int8, byB v s = b.toInt32 := ⟨_, vp_nar_byte _⟩
def ap4 (b : Nat → Int32) (n : Nat) (v : Int32) : Nat → Int32 := upd (upd (upd (upd b n (byB v 24)) (n + 1) (byB v 16)) (n + 2) (byB v 8)) (n + 3) (byB v 0)
section
variable {x m u : GW}
theorem m_app1 {n k : Nat} (hn : n < 900) (v s : Int32) (hs : ¬ s < 0) (b : Nat → Int32) : f_X11_four_3 (k + 1) v s (pY m b (nI n)) = f_X11_four_3 k v (s + (-8 : Int32)) (pY m (upd b n (byB v s)) (nI (n + 1))) := by
  show b_X11_four_3 _ v s _ = _
  unfold b_X11_four_3
  rw [if_neg hs, pY_10, if_pos (gin_nI (by omega) (by omega)), nI_clamp (by omega), gI_pY, nI_1]
  rfl
theorem x_append {n : Nat} (hn : n + 4 ≤ 900) (v : Int32) (h0 : u.1 0 0 = nI n) : F_X8_append v u = some (pX u (ap4 (u.1 1) n v) (nI (n + 4))) := by
  have e : u = pX u (u.1 1) (nI n) := by rw [← h0]; exact (pX_id u).symm
  have e2 : F_X8_append v (pX u (u.1 1) (nI n)) = some (pX u (ap4 (u.1 1) n v) (nI (n + 4))) := by
    unfold F_X8_append
    have fu : ∀ s w, f_X8_append_3 FU v s w = f_X8_append_3 (FU - 5 + 5) v s w := fun s w => by rw [show FU - 5 + 5 = FU by have := FU_big; omega]
    rw [fu]
    have key : ∀ F, f_X8_append_3 (F + 5) v (24 : Int32) (pX u (u.1 1) (nI n)) = some (pX u (ap4 (u.1 1) n v) (nI (n + 4))) := by
      intro F
      have st : ∀ k n (s : Int32) (b : Nat → Int32), n < 900 → ¬ s < 0 → f_X8_append_3 (k + 1) v s (pX u b (nI n)) = f_X8_append_3 k v (s + (-8 : Int32)) (pX u (upd b n (byB v s)) (nI (n + 1))) := by
        intro k n s b hn hs
        show b_X8_append_3 _ v s _ = _
        unfold b_X8_append_3 f_X8_append_47
        rw [if_neg hs, pX_0, if_neg (nI_pos (by omega)), if_neg (nI_geL (by omega) (by omega)), if_pos (gin_nI (by omega) (by omega)), nI_clamp (by omega), gI_pX, nI_1]
        rfl
      rw [st (F + 4) n 24 _ (by omega) (by decide), show (24 : Int32) + (-8 : Int32) = 16 by decide, st (F + 3) (n + 1) 16 _ (by omega) (by decide), show (16 : Int32) + (-8 : Int32) = 8 by decide, st (F + 2) (n + 1 + 1) 8 _ (by omega) (by decide), show (8 : Int32) + (-8 : Int32) = 0 by decide, st (F + 1) (n + 1 + 1 + 1) 0 _ (by omega) (by decide), show (0 : Int32) + (-8 : Int32) = -8 by decide]
      show b_X8_append_3 _ v (-8) _ = _
      unfold b_X8_append_3
      rw [if_pos (by decide)]
      rfl
    exact key _
  rw [← e] at e2
  exact e2
theorem m_four {n : Nat} (hn : n + 4 ≤ 900) (v : Int32) (h0 : m.1 0 10 = nI n) : F_X11_four v m = some (pY m (ap4 (m.1 6) n v) (nI (n + 4))) := by
  have e : m = pY m (m.1 6) (nI n) := by rw [← h0]; exact (pY_id m).symm
  have e2 : F_X11_four v (pY m (m.1 6) (nI n)) = some (pY m (ap4 (m.1 6) n v) (nI (n + 4))) := by
    unfold F_X11_four
    have key : ∀ F, f_X11_four_3 (F + 5) v (24 : Int32) (pY m (m.1 6) (nI n)) = some (pY m (ap4 (m.1 6) n v) (nI (n + 4))) := by
      intro F
      rw [m_app1 (k := F + 4) (by omega) v 24 (by decide), show (24 : Int32) + (-8 : Int32) = 16 by decide, m_app1 (k := F + 3) (n := n + 1) (by omega) v 16 (by decide), show (16 : Int32) + (-8 : Int32) = 8 by decide, m_app1 (k := F + 2) (n := n + 1 + 1) (by omega) v 8 (by decide), show (8 : Int32) + (-8 : Int32) = 0 by decide, m_app1 (k := F + 1) (n := n + 1 + 1 + 1) (by omega) v 0 (by decide), show (0 : Int32) + (-8 : Int32) = -8 by decide]
      show b_X11_four_3 _ v (-8) _ = _
      unfold b_X11_four_3
      rw [if_pos (by decide)]
      rfl
    have := key (FU - 5)
    rw [show FU - 5 + 5 = FU by have := FU_big; omega] at this
    exact this
  rw [← e] at e2
  exact e2
theorem ap4_lo {b : Nat → Int32} {n k : Nat} (v : Int32) (h : k < n) : ap4 b n v k = b k := by
  unfold ap4
  rw [pk_un (by omega), pk_un (by omega), pk_un (by omega), pk_un (by omega)]
theorem ap4_same {b b' : Nat → Int32} {n : Nat} (v : Int32) (h : ∀ k, k < n → b k = b' k ∧ ∃ w : Int8, b k = w.toInt32) : ∀ k, k < n + 4 → ap4 b n v k = ap4 b' n v k ∧ ∃ w : Int8, ap4 b n v k = w.toInt32 := by
  intro k hk
  by_cases e : k < n
  · rw [ap4_lo v e, ap4_lo v e]; exact h k e
  · have : k = n ∨ k = n + 1 ∨ k = n + 2 ∨ k = n + 3 := by omega
    unfold ap4
    rcases this with rfl | rfl | rfl | rfl
    · rw [pk_un (by omega), pk_un (by omega), pk_un (by omega), pk_us, pk_un (by omega), pk_un (by omega), pk_un (by omega), pk_us]
      exact ⟨rfl, byB_byte _ _⟩
    · rw [pk_un (by omega), pk_un (by omega), pk_us, pk_un (by omega), pk_un (by omega), pk_us]
      exact ⟨rfl, byB_byte _ _⟩
    · rw [pk_un (by omega), pk_us, pk_un (by omega), pk_us]
      exact ⟨rfl, byB_byte _ _⟩
    · rw [pk_us, pk_us]
      exact ⟨rfl, byB_byte _ _⟩
theorem feed1 (h : RR x m) {n : Nat} (hn : n + 4 ≤ 900) (hx : x.1 9 0 = nI n) (hm : m.1 0 10 = nI n) (v : Int32) : ∃ u' m', F_X8_append v (gsub x e_shX_shT_9) = some u' ∧ F_X11_four v m = some m' ∧ RR (gput x e_shX_shT_9 u') m' ∧ u'.1 0 0 = nI (n + 4) ∧ m'.1 0 10 = nI (n + 4) := by
  refine ⟨_, _, x_append (u := gsub x e_shX_shT_9) hn v hx, m_four hn v hm, ?_, pX_0 _ _ _, pY_10 _ _ _⟩
  obtain ⟨⟨n0, h1, h2, h3, h4⟩, h5, h6⟩ := h.2.2.1
  have e : n0 = n := (nI_eq (by omega) (by omega)).mp (h2.symm.trans hx)
  subst e
  exact ⟨h.1, h.2.1, ⟨⟨n0 + 4, hn, pX_0 (gsub x e_shX_shT_9) (ap4 ((gsub x e_shX_shT_9).1 1) n0 v) (nI (n0 + 4)), pY_10 m (ap4 (m.1 6) n0 v) (nI (n0 + 4)), ap4_same v h4⟩, h5, h6⟩, h.2.2.2.1, h.2.2.2.2.1, h.2.2.2.2.2⟩
theorem s_feed (h : RR x m) (a b c d e : Int32) : Sm (F_X10_feed a b c d e x) (F_X11_feed a b c d e m) := by
  obtain ⟨⟨n, h1, h2, h3, h4⟩, h5, h6⟩ := h.2.2.1
  unfold F_X10_feed F_X11_feed F_X8_hasRoomFor
  rw [show (gsub x e_shX_shT_9).1 0 0 = nI n from h2, show (900 : Int32) - (20 : Int32) = nI 880 by decide, h3, nq_addL]
  by_cases hl : n ≤ 880
  · rw [if_neg (nI_nlt hl (by omega)), Option.bind_some, if_neg one_ne, if_pos (nI_leR (by show n + 20 ≤ 900; omega) (by omega))]
    obtain ⟨u1, m1, a1, a2, a3, a4, a5⟩ := feed1 h (n := n) (by omega) h2 h3 a
    obtain ⟨u2, m2, b1, b2, b3, b4, b5⟩ := feed1 a3 (n := n + 4) (by omega) a4 a5 b
    obtain ⟨u3, m3, c1, c2, c3, c4, c5⟩ := feed1 b3 (n := n + 4 + 4) (by omega) b4 b5 c
    obtain ⟨u4, m4, d1, d2, d3, d4, d5⟩ := feed1 c3 (n := n + 4 + 4 + 4) (by omega) c4 c5 d
    obtain ⟨u5, m5, f1, f2, f3, f4, f5⟩ := feed1 d3 (n := n + 4 + 4 + 4 + 4) (by omega) d4 d5 e
    rw [a1, a2, Option.bind_some, Option.bind_some, b1, b2, Option.bind_some, Option.bind_some, c1, c2, Option.bind_some, Option.bind_some, d1, d2, Option.bind_some, Option.bind_some, f1, f2, Option.bind_some, Option.bind_some, f4, f5]
    exact ⟨_, _, _, rfl, rfl, f3⟩
  · rw [if_pos (nI_lt (by omega) (by omega)), Option.bind_some, if_pos zer_eq, if_neg (nI_nleR (by show 900 < n + 20; omega) (by show n + 20 < _; omega))]
    exact ⟨_, _, _, rfl, rfl, h⟩
theorem s_lived (h : RR x m) (u : Int32) : Sm (F_X10_lived u x) (F_X11_lived u m) := by
  unfold F_X10_lived F_X11_lived f_X10_lived_124 f_X11_lived_9
  rw [show F_X10_between u (0 : Int32) (4 : Int32) = some (if btw u 0 4 then 1 else 0) from x_btw u 0 4]
  simp only [F_X10_answer, F_X10_refuse, F_X10_answerOrRefuse, F_X10_grant, F_X10_deny, F_X11_gives, F_X11_refuse, F_X11_orNone, F_X11_is, Option.bind_some, ite01]
  rw [btw_rngL (q := 4)]
  by_cases hu : btw u 0 4
  · obtain ⟨j, _, hj, rfl⟩ := btw_of hu (by omega) (by omega)
    rw [if_pos hu, if_pos hu, if_pos (gin_nI (by omega) (by omega)), nI_clamp (by omega)]
    rcases h.2.2.2.2.2 with ⟨h1, h2⟩ | ⟨h1, h2, h3, h4, h5, h6, h7, h8⟩
    · rw [h1, h2, if_pos zer_eq, if_pos zer_eq]; exact Sm.fin h _ _
    · rw [h1, h2, if_neg one_ne, if_neg one_ne]
      have : j = 0 ∨ j = 1 ∨ j = 2 ∨ j = 3 ∨ j = 4 := by omega
      rcases this with rfl | rfl | rfl | rfl | rfl
      · rw [if_pos (by decide), h3]; exact Sm.fin h _ _
      · rw [if_neg (by decide), if_pos (by decide), h4]; exact Sm.fin h _ _
      · rw [if_neg (by decide), if_neg (by decide), if_pos (by decide), h5]; exact Sm.fin h _ _
      · rw [if_neg (by decide), if_neg (by decide), if_neg (by decide), if_pos (by decide), h6]; exact Sm.fin h _ _
      · rw [if_neg (by decide), if_neg (by decide), if_neg (by decide), if_neg (by decide), ← h7]
        rcases h8 with h8 | h8
        · rw [h8, if_pos zer_eq]; exact Sm.fin h _ _
        · rw [h8, if_neg one_ne]; exact Sm.fin h _ _
  · rw [if_neg hu, if_neg hu]; exact Sm.fin h _ _
end
