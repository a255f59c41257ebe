/-! Marks (the three cases are made by wip/tools/gen57.py). -/
def pN (m : GW) (n : Nat → Int64) : GW := (m.1, fun i => if i = 2 then n else m.2 i)
theorem gL_pN (m : GW) (k : Nat) (v : Int64) : gL m 2 k v = pN m (vp_updL (m.2 2) k v) := by
  refine Prod.ext rfl (funext fun i => funext fun j => ?_)
  show (if i = 2 ∧ j = k then v else m.2 i j) = (if i = 2 then vp_updL (m.2 2) k v else m.2 i) j
  by_cases h : i = 2
  · rw [if_pos h, h]
    show _ = (if j = k then v else m.2 2 j)
    by_cases h2 : j = k
    · rw [if_pos ⟨rfl, h2⟩, if_pos h2]
    · rw [if_neg (fun q => h2 q.2), if_neg h2]
  · rw [if_neg (fun q => h q.1), if_neg h]
theorem pN_pN (m : GW) (n n' : Nat → Int64) : pN (pN m n) n' = pN m n' := by
  refine Prod.ext rfl (funext fun i => ?_)
  show (if i = 2 then n' else (if i = 2 then n else m.2 i)) = (if i = 2 then n' else m.2 i)
  by_cases h : i = 2
  · rw [if_pos h, if_pos h]
  · rw [if_neg h, if_neg h, if_neg h]
theorem pN_2 (m : GW) (n : Nat → Int64) : (pN m n).2 2 = n := rfl
theorem pN_id (m : GW) : pN m (m.2 2) = m := by
  refine Prod.ext rfl (funext fun i => ?_)
  show (if i = 2 then m.2 2 else m.2 i) = m.2 i
  by_cases h : i = 2
  · rw [if_pos h, h]
  · rw [if_neg h]
def aCy (a : Nat → Int32) (f t i : Nat) : Nat → Int32 := fun k => if 454 * t ≤ k ∧ k < 454 * t + i then a (454 * f + (k - 454 * t)) else a k
def nCy (a : Nat → Int64) (f t i : Nat) : Nat → Int64 := fun k => if 6 * t ≤ k ∧ k < 6 * t + i then a (6 * f + (k - 6 * t)) else a k
theorem aCy_in {a : Nat → Int32} {f t k : Nat} (h : k < 454) : aCy a f t 454 (454 * t + k) = a (454 * f + k) := by
  unfold aCy
  rw [if_pos (by omega), show 454 * t + k - 454 * t = k by omega]
theorem aCy_out {a : Nat → Int32} {f t k : Nat} (h : k < 454 * t ∨ 454 * t + 454 ≤ k) : aCy a f t 454 k = a k := by
  unfold aCy
  rw [if_neg (by omega)]
theorem nCy_in {a : Nat → Int64} {f t k : Nat} (h : k < 6) : nCy a f t 6 (6 * t + k) = a (6 * f + k) := by
  unfold nCy
  rw [if_pos (by omega), show 6 * t + k - 6 * t = k by omega]
theorem nCy_out {a : Nat → Int64} {f t k : Nat} (h : k < 6 * t ∨ 6 * t + 6 ≤ k) : nCy a f t 6 k = a k := by
  unfold nCy
  rw [if_neg (by omega)]
section
variable {x m : GW} {a : Nat → Int32} {nm : Nat → Int64}
theorem m_copies_n {f t : Nat} (hf : f ≤ 3) (ht : t ≤ 3) (hne : f ≠ t) : ∀ k n i, i + k = 6 → k < n → f_X11_copies_41 n (nI f) (nI t) (nI i) (pN m (nCy nm f t i)) = some (pN m (nCy nm f t 6)) := by
  intro k
  induction k with
  | zero =>
    intro n i e h1
    obtain ⟨n, rfl⟩ := fu_pos h1
    show b_X11_copies_41 _ (nI f) (nI t) (nI i) _ = _
    unfold b_X11_copies_41
    rw [if_pos (nI_leL (by omega) (by omega)), show i = 6 by omega]
  | succ k ih =>
    intro n i e h1
    obtain ⟨n, rfl⟩ := fu_pos h1
    show b_X11_copies_41 _ (nI f) (nI t) (nI i) _ = _
    unfold b_X11_copies_41
    rw [if_neg (nI_geL (by omega) (by omega)), nq_Lmul, nq_Lmul, nI_add, nI_add, if_pos (gin_nI (by show 6 * f + i < 36; omega) (by omega)), if_pos (gin_nI (by show 6 * t + i < 36; omega) (by omega)), nI_clamp (n := 6 * t + i) (by omega), nI_clamp (n := 6 * f + i) (by omega), gL_pN, pN_pN, pN_2, nI_1, ← ih n (i + 1) (by omega) (by omega)]
    congr 2
    funext j
    show (if j = 6 * t + i then nCy nm f t i (6 * f + i) else nCy nm f t i j) = nCy nm f t (i + 1) j
    by_cases ej : j = 6 * t + i
    · subst ej
      rw [if_pos rfl]
      unfold nCy
      rw [if_neg (by omega), if_pos (by omega), show 6 * t + i - 6 * t = i by omega]
    · rw [if_neg ej]
      unfold nCy
      by_cases e4 : 6 * t ≤ j ∧ j < 6 * t + i
      · rw [if_pos e4, if_pos (by omega)]
      · rw [if_neg e4, if_neg (by omega)]
theorem m_copies_l {f t : Nat} (hf : f ≤ 3) (ht : t ≤ 3) (hne : f ≠ t) : ∀ k n i, i + k = 454 → k < n → f_X11_copies_2 n (nI f) (nI t) (nI i) (pA m (aCy a f t i)) = some (pN (pA m (aCy a f t 454)) (nCy (m.2 2) f t 6)) := by
  intro k
  induction k with
  | zero =>
    intro n i e h1
    obtain ⟨n, rfl⟩ := fu_pos h1
    show b_X11_copies_2 _ (nI f) (nI t) (nI i) _ = _
    unfold b_X11_copies_2
    rw [if_pos (nI_leL (by omega) (by omega)), show i = 454 by omega]
    have h := m_copies_n (m := pA m (aCy a f t 454)) (nm := m.2 2) hf ht hne 6 FU 0 (by omega) (by have := FU_big; omega)
    have e0 : pN (pA m (aCy a f t 454)) (nCy (m.2 2) f t 0) = pA m (aCy a f t 454) := by
      have e1 : nCy (m.2 2) f t 0 = m.2 2 := by
        funext k
        unfold nCy
        rw [if_neg (by omega)]
      rw [e1]
      exact pN_id (pA m (aCy a f t 454))
    rw [e0] at h
    exact h
  | succ k ih =>
    intro n i e h1
    obtain ⟨n, rfl⟩ := fu_pos h1
    show b_X11_copies_2 _ (nI f) (nI t) (nI i) _ = _
    unfold b_X11_copies_2
    rw [if_neg (nI_geL (by omega) (by omega)), nq_Lmul, nq_Lmul, nI_add, nI_add, if_pos (gin_nI (by show 454 * f + i < 2356; omega) (by omega)), if_pos (gin_nI (by show 454 * t + i < 2356; omega) (by omega)), nI_clamp (n := 454 * t + i) (by omega), nI_clamp (n := 454 * f + i) (by omega), gI_pA, pA_pA, pA_1, nI_1, ← ih n (i + 1) (by omega) (by omega)]
    congr 2
    funext j
    show (if j = 454 * t + i then aCy a f t i (454 * f + i) else aCy a f t i j) = aCy a f t (i + 1) j
    by_cases ej : j = 454 * t + i
    · subst ej
      rw [if_pos rfl]
      unfold aCy
      rw [if_neg (by omega), if_pos (by omega), show 454 * t + i - 454 * t = i by omega]
    · rw [if_neg ej]
      unfold aCy
      by_cases e4 : 454 * t ≤ j ∧ j < 454 * t + i
      · rw [if_pos e4, if_pos (by omega)]
      · rw [if_neg e4, if_neg (by omega)]
theorem m_copies {f t : Nat} (hf : f ≤ 3) (ht : t ≤ 3) (hne : f ≠ t) : F_X11_copies (nI f) (nI t) m = some (pN (pA m (aCy (m.1 1) f t 454)) (nCy (m.2 2) f t 6)) := by
  have h := m_copies_l (m := m) (a := m.1 1) hf ht hne 454 FU 0 (by omega) (by have := FU_big; omega)
  have e0 : pA m (aCy (m.1 1) f t 0) = m := by
    have e1 : aCy (m.1 1) f t 0 = m.1 1 := by
      funext k
      unfold aCy
      rw [if_neg (by omega)]
    rw [e1, pA_id]
  rw [e0] at h
  exact h
def cpP (w : GW) : GW := gcpI (gcpI (gcpI (gcpI (gcpI (gcpI (gcpI (gI (gI w 0 0 (w.1 8 0)) 0 1 (w.1 8 1)) 9 1 0 0 30) 10 2 0 0 30) 11 3 0 0 30) 12 4 0 0 30) 13 5 0 0 30) 14 6 0 0 30) 15 7 0 0 30
def bP2 (w : GW) : GW := (fun i => w.1 (8 + i), fun i => w.2 (8 + i))
theorem Pq.bool {p : GW} {nk nc : Nat} (h : Pq p a nk nc) : p.1 0 0 = 0 ∨ p.1 0 0 = 1 := by
  rcases h with ⟨h, _⟩ | ⟨h, _⟩
  · exact Or.inl h
  · exact Or.inr h
theorem Pq.copy {w : GW} {nk nc : Nat} (h : Pq (bP2 w) a nk nc) : Pq (cpP w) a nk nc := by
  refine h.congr (Nat.le_refl _) ⟨rfl, rfl⟩ (fun i s h1 h2 hs => ?_) rfl (fun _ _ _ => rfl)
  have : i = 1 ∨ i = 2 ∨ i = 3 ∨ i = 4 ∨ i = 5 ∨ i = 6 ∨ i = 7 := by omega
  rcases this with rfl | rfl | rfl | rfl | rfl | rfl | rfl
  · show va_cpy (w.1 9) (w.1 1) 0 0 30 s = _
    exact cpy0 hs
  · show va_cpy (w.1 10) (w.1 2) 0 0 30 s = _
    exact cpy0 hs
  · show va_cpy (w.1 11) (w.1 3) 0 0 30 s = _
    exact cpy0 hs
  · show va_cpy (w.1 12) (w.1 4) 0 0 30 s = _
    exact cpy0 hs
  · show va_cpy (w.1 13) (w.1 5) 0 0 30 s = _
    exact cpy0 hs
  · show va_cpy (w.1 14) (w.1 6) 0 0 30 s = _
    exact cpy0 hs
  · show va_cpy (w.1 15) (w.1 7) 0 0 30 s = _
    exact cpy0 hs
theorem SQ.copy {wB wP : GW} (h : SQ (bB2 wB) (bP2 wP) a nm) : SQ (cpB wB) (cpP wP) a nm := by
  obtain ⟨nc, nr, nk, nl, h1, h2, h3⟩ := h
  exact ⟨nc, nr, nk, nl, h1.copy h2.cnt, h2, h3.copy⟩
theorem SQ.mv {wb wp wb' wp' : GW} {a a' : Nat → Int32} {nm nm' : Nat → Int64} (h : SQ wb wp a nm) (hb : ∀ a nm nc nr nk nl, Bq wb a nm nc nr nk nl → Bq wb' a nm nc nr nk nl) (hp : ∀ a nk nc, Pq wp a nk nc → Pq wp' a nk nc) (ha : ∀ k, k < 454 → a' k = a k) (hn : ∀ k, k < 6 → nm' k = nm k) : SQ wb' wp' a' nm' := by
  obtain ⟨nc, nr, nk, nl, h1, h2, h3⟩ := h.congr (wb' := wb) (wp' := wp) (fun _ _ _ => rfl) (fun _ => rfl) (fun _ _ _ => rfl) ha hn
  exact ⟨nc, nr, nk, nl, hb _ _ _ _ _ _ h1, h2, hp _ _ _ h3⟩
theorem x_copyP {wB wP : GW} (h : SQ wB (bP2 wP) a nm) : F_X5_copyFrom wP = some (cpP wP) := by
  obtain ⟨nc, nr, nk, nl, h1, h2, h3⟩ := h
  exact if_pos h3.bool
theorem s_mark0 (h : RR x m) (hn : x.1 0 13 = nI 0) (hm : m.1 0 39 = nI 0) : Sm (F_X10_mark x) (F_X11_mark m) := by
  obtain ⟨n, h1, h2, h3, h4, h5, h6⟩ := h.2.2.2.2.1
  have en : n = 0 := (nI_eq (by omega) (by omega)).mp (h2.symm.trans hn)
  subst en
  have q : SQ (bB2 (gsub x e_shX_shBB_61_14)) (bP2 (gsub (gput x e_shX_shBB_61_14 (cpB (gsub x e_shX_shBB_61_14))) e_shX_shPP_74_40)) (m.1 1) (m.2 2) := h.2.2.2.1
  have qc := q.copy
  have ep : F_X5_copyFrom (gsub (gput x e_shX_shBB_61_14 (cpB (gsub x e_shX_shBB_61_14))) e_shX_shPP_74_40) = _ := x_copyP q
  unfold F_X10_mark F_X11_mark
  rw [hn, hm, if_pos (show nI 0 < (3 : Int32) by decide), if_pos (show nI 0 = (0 : Int32) by decide), if_neg (show ¬ nI 0 = (3 : Int32) by decide), show nI 0 + (1 : Int32) = nI 1 from nI_add 0 1]
  simp only [F_X10_answer, F_X10_refuse, F_X10_answerOrRefuse, F_X10_grant, F_X10_deny, F_X11_gives, F_X11_refuse, F_X11_orNone, F_X11_is, Option.bind_some, ite01, x_copyB, ep]
  rw [show (0 : Int32) = nI 0 from rfl, show F_X11_copies (nI 0) (nI 1) (gI m 0 39 (nI 1)) = _ from m_copies (m := gI m 0 39 (nI 1)) (by omega) (by omega) (by omega), Option.bind_some]
  refine ⟨nI 1, _, _, rfl, rfl, RR.st ?_ (nI 0)⟩
  refine ⟨h.1, h.2.1, h.2.2.1, ?_, ⟨1, by omega, rfl, rfl, ?_, ?_, ?_⟩, h.2.2.2.2.2⟩
  · exact h.2.2.2.1.mv (fun _ _ _ _ _ _ q => q) (fun _ _ _ q => q) (fun k hk => aCy_out (by omega)) (fun k hk => nCy_out (by omega))
  · intro _
    exact qc.mv (fun _ _ _ _ _ _ q => q) (fun _ _ _ q => q) (fun k hk => (aCy_in (t := 1) hk).trans (congrArg (m.1 1) (Nat.zero_add k))) (fun k hk => (nCy_in (t := 1) hk).trans (congrArg (m.2 2) (Nat.zero_add k)))
  · intro hq; omega
  · intro hq; omega
theorem s_undo1 (h : RR x m) (hn : x.1 0 13 = nI 1) (hm : m.1 0 39 = nI 1) : Sm (F_X10_undo x) (F_X11_undo m) := by
  obtain ⟨n, h1, h2, h3, h4, h5, h6⟩ := h.2.2.2.2.1
  have en : n = 1 := (nI_eq (by omega) (by omega)).mp (h2.symm.trans hn)
  subst en
  have q : SQ (bB2 (gsub (gI x 0 13 (nI 0)) e_shX_shBB_14_61)) (bP2 (gsub (gput (gI x 0 13 (nI 0)) e_shX_shBB_14_61 (cpB (gsub (gI x 0 13 (nI 0)) e_shX_shBB_14_61))) e_shX_shPP_40_74)) (fun k => m.1 1 (454 + k)) (fun k => m.2 2 (6 + k)) := h4 (by omega)
  have qc := q.copy
  have ep : F_X5_copyFrom (gsub (gput (gI x 0 13 (nI 0)) e_shX_shBB_14_61 (cpB (gsub (gI x 0 13 (nI 0)) e_shX_shBB_14_61))) e_shX_shPP_40_74) = _ := x_copyP q
  unfold F_X10_undo F_X11_undo
  rw [hn, hm, if_pos (show 0 < nI 1 by decide), show nI 1 - (1 : Int32) = nI 0 from nI_pred 0, if_pos (show nI 0 = (0 : Int32) by decide), if_neg (show ¬ nI 1 = 0 by decide)]
  simp only [F_X10_answer, F_X10_refuse, F_X10_answerOrRefuse, F_X10_grant, F_X10_deny, F_X11_gives, F_X11_refuse, F_X11_orNone, F_X11_is, Option.bind_some, ite01, x_copyB, ep]
  rw [show (0 : Int32) = nI 0 from rfl, m_copies (m := m) (f := 1) (t := 0) (by omega) (by omega) (by omega), Option.bind_some]
  have e39 : (pN (pA m (aCy (m.1 1) 1 0 454)) (nCy (m.2 2) 1 0 6)).1 0 39 - (1 : Int32) = nI 0 := by
    show m.1 0 39 - (1 : Int32) = nI 0
    rw [hm]
    exact nI_pred 0
  rw [e39]
  refine ⟨nI 0, _, _, rfl, rfl, RR.st ?_ (nI 0)⟩
  refine ⟨h.1, h.2.1, h.2.2.1, ?_, ⟨0, by omega, rfl, rfl, ?_, ?_, ?_⟩, h.2.2.2.2.2⟩
  · exact qc.mv (fun _ _ _ _ _ _ q => q) (fun _ _ _ q => q) (fun k hk => by have := aCy_in (a := m.1 1) (f := 1) (t := 0) hk; rw [Nat.mul_zero, Nat.zero_add] at this; exact this) (fun k hk => by have := nCy_in (a := m.2 2) (f := 1) (t := 0) hk; rw [Nat.mul_zero, Nat.zero_add] at this; exact this)
  · intro hq; omega
  · intro hq; omega
  · intro hq; omega
theorem s_mark1 (h : RR x m) (hn : x.1 0 13 = nI 1) (hm : m.1 0 39 = nI 1) : Sm (F_X10_mark x) (F_X11_mark m) := by
  obtain ⟨n, h1, h2, h3, h4, h5, h6⟩ := h.2.2.2.2.1
  have en : n = 1 := (nI_eq (by omega) (by omega)).mp (h2.symm.trans hn)
  subst en
  have q : SQ (bB2 (gsub x e_shX_shBB_83_14)) (bP2 (gsub (gput x e_shX_shBB_83_14 (cpB (gsub x e_shX_shBB_83_14))) e_shX_shPP_96_40)) (m.1 1) (m.2 2) := h.2.2.2.1
  have qc := q.copy
  have ep : F_X5_copyFrom (gsub (gput x e_shX_shBB_83_14 (cpB (gsub x e_shX_shBB_83_14))) e_shX_shPP_96_40) = _ := x_copyP q
  unfold F_X10_mark F_X11_mark
  rw [hn, hm, if_pos (show nI 1 < (3 : Int32) by decide), if_neg (show ¬ nI 1 = (0 : Int32) by decide), if_pos (show nI 1 = (1 : Int32) by decide), if_neg (show ¬ nI 1 = (3 : Int32) by decide), show nI 1 + (1 : Int32) = nI 2 from nI_add 1 1]
  simp only [F_X10_answer, F_X10_refuse, F_X10_answerOrRefuse, F_X10_grant, F_X10_deny, F_X11_gives, F_X11_refuse, F_X11_orNone, F_X11_is, Option.bind_some, ite01, x_copyB, ep]
  rw [show (0 : Int32) = nI 0 from rfl, show F_X11_copies (nI 0) (nI 2) (gI m 0 39 (nI 2)) = _ from m_copies (m := gI m 0 39 (nI 2)) (by omega) (by omega) (by omega), Option.bind_some]
  refine ⟨nI 2, _, _, rfl, rfl, RR.st ?_ (nI 0)⟩
  refine ⟨h.1, h.2.1, h.2.2.1, ?_, ⟨2, by omega, rfl, rfl, ?_, ?_, ?_⟩, h.2.2.2.2.2⟩
  · exact h.2.2.2.1.mv (fun _ _ _ _ _ _ q => q) (fun _ _ _ q => q) (fun k hk => aCy_out (by omega)) (fun k hk => nCy_out (by omega))
  · intro _
    exact (h4 (by omega)).mv (fun _ _ _ _ _ _ q => q) (fun _ _ _ q => q) (fun k hk => aCy_out (by omega)) (fun k hk => nCy_out (by omega))
  · intro _
    exact qc.mv (fun _ _ _ _ _ _ q => q) (fun _ _ _ q => q) (fun k hk => (aCy_in (t := 2) hk).trans (congrArg (m.1 1) (Nat.zero_add k))) (fun k hk => (nCy_in (t := 2) hk).trans (congrArg (m.2 2) (Nat.zero_add k)))
  · intro hq; omega
theorem s_undo2 (h : RR x m) (hn : x.1 0 13 = nI 2) (hm : m.1 0 39 = nI 2) : Sm (F_X10_undo x) (F_X11_undo m) := by
  obtain ⟨n, h1, h2, h3, h4, h5, h6⟩ := h.2.2.2.2.1
  have en : n = 2 := (nI_eq (by omega) (by omega)).mp (h2.symm.trans hn)
  subst en
  have q : SQ (bB2 (gsub (gI x 0 13 (nI 1)) e_shX_shBB_14_83)) (bP2 (gsub (gput (gI x 0 13 (nI 1)) e_shX_shBB_14_83 (cpB (gsub (gI x 0 13 (nI 1)) e_shX_shBB_14_83))) e_shX_shPP_40_96)) (fun k => m.1 1 (908 + k)) (fun k => m.2 2 (12 + k)) := h5 (by omega)
  have qc := q.copy
  have ep : F_X5_copyFrom (gsub (gput (gI x 0 13 (nI 1)) e_shX_shBB_14_83 (cpB (gsub (gI x 0 13 (nI 1)) e_shX_shBB_14_83))) e_shX_shPP_40_96) = _ := x_copyP q
  unfold F_X10_undo F_X11_undo
  rw [hn, hm, if_pos (show 0 < nI 2 by decide), show nI 2 - (1 : Int32) = nI 1 from nI_pred 1, if_neg (show ¬ nI 1 = (0 : Int32) by decide), if_pos (show nI 1 = (1 : Int32) by decide), if_neg (show ¬ nI 2 = 0 by decide)]
  simp only [F_X10_answer, F_X10_refuse, F_X10_answerOrRefuse, F_X10_grant, F_X10_deny, F_X11_gives, F_X11_refuse, F_X11_orNone, F_X11_is, Option.bind_some, ite01, x_copyB, ep]
  rw [show (0 : Int32) = nI 0 from rfl, m_copies (m := m) (f := 2) (t := 0) (by omega) (by omega) (by omega), Option.bind_some]
  have e39 : (pN (pA m (aCy (m.1 1) 2 0 454)) (nCy (m.2 2) 2 0 6)).1 0 39 - (1 : Int32) = nI 1 := by
    show m.1 0 39 - (1 : Int32) = nI 1
    rw [hm]
    exact nI_pred 1
  rw [e39]
  refine ⟨nI 1, _, _, rfl, rfl, RR.st ?_ (nI 0)⟩
  refine ⟨h.1, h.2.1, h.2.2.1, ?_, ⟨1, by omega, rfl, rfl, ?_, ?_, ?_⟩, h.2.2.2.2.2⟩
  · exact qc.mv (fun _ _ _ _ _ _ q => q) (fun _ _ _ q => q) (fun k hk => by have := aCy_in (a := m.1 1) (f := 2) (t := 0) hk; rw [Nat.mul_zero, Nat.zero_add] at this; exact this) (fun k hk => by have := nCy_in (a := m.2 2) (f := 2) (t := 0) hk; rw [Nat.mul_zero, Nat.zero_add] at this; exact this)
  · intro _
    exact (h4 (by omega)).mv (fun _ _ _ _ _ _ q => q) (fun _ _ _ q => q) (fun k hk => aCy_out (by omega)) (fun k hk => nCy_out (by omega))
  · intro hq; omega
  · intro hq; omega
theorem s_mark2 (h : RR x m) (hn : x.1 0 13 = nI 2) (hm : m.1 0 39 = nI 2) : Sm (F_X10_mark x) (F_X11_mark m) := by
  obtain ⟨n, h1, h2, h3, h4, h5, h6⟩ := h.2.2.2.2.1
  have en : n = 2 := (nI_eq (by omega) (by omega)).mp (h2.symm.trans hn)
  subst en
  have q : SQ (bB2 (gsub x e_shX_shBB_105_14)) (bP2 (gsub (gput x e_shX_shBB_105_14 (cpB (gsub x e_shX_shBB_105_14))) e_shX_shPP_118_40)) (m.1 1) (m.2 2) := h.2.2.2.1
  have qc := q.copy
  have ep : F_X5_copyFrom (gsub (gput x e_shX_shBB_105_14 (cpB (gsub x e_shX_shBB_105_14))) e_shX_shPP_118_40) = _ := x_copyP q
  unfold F_X10_mark F_X11_mark
  rw [hn, hm, if_pos (show nI 2 < (3 : Int32) by decide), if_neg (show ¬ nI 2 = (0 : Int32) by decide), if_neg (show ¬ nI 2 = (1 : Int32) by decide), if_pos (show nI 2 = (2 : Int32) by decide), if_neg (show ¬ nI 2 = (3 : Int32) by decide), show nI 2 + (1 : Int32) = nI 3 from nI_add 2 1]
  simp only [F_X10_answer, F_X10_refuse, F_X10_answerOrRefuse, F_X10_grant, F_X10_deny, F_X11_gives, F_X11_refuse, F_X11_orNone, F_X11_is, Option.bind_some, ite01, x_copyB, ep]
  rw [show (0 : Int32) = nI 0 from rfl, show F_X11_copies (nI 0) (nI 3) (gI m 0 39 (nI 3)) = _ from m_copies (m := gI m 0 39 (nI 3)) (by omega) (by omega) (by omega), Option.bind_some]
  refine ⟨nI 3, _, _, rfl, rfl, RR.st ?_ (nI 0)⟩
  refine ⟨h.1, h.2.1, h.2.2.1, ?_, ⟨3, by omega, rfl, rfl, ?_, ?_, ?_⟩, h.2.2.2.2.2⟩
  · exact h.2.2.2.1.mv (fun _ _ _ _ _ _ q => q) (fun _ _ _ q => q) (fun k hk => aCy_out (by omega)) (fun k hk => nCy_out (by omega))
  · intro _
    exact (h4 (by omega)).mv (fun _ _ _ _ _ _ q => q) (fun _ _ _ q => q) (fun k hk => aCy_out (by omega)) (fun k hk => nCy_out (by omega))
  · intro _
    exact (h5 (by omega)).mv (fun _ _ _ _ _ _ q => q) (fun _ _ _ q => q) (fun k hk => aCy_out (by omega)) (fun k hk => nCy_out (by omega))
  · intro _
    exact qc.mv (fun _ _ _ _ _ _ q => q) (fun _ _ _ q => q) (fun k hk => (aCy_in (t := 3) hk).trans (congrArg (m.1 1) (Nat.zero_add k))) (fun k hk => (nCy_in (t := 3) hk).trans (congrArg (m.2 2) (Nat.zero_add k)))
theorem s_undo3 (h : RR x m) (hn : x.1 0 13 = nI 3) (hm : m.1 0 39 = nI 3) : Sm (F_X10_undo x) (F_X11_undo m) := by
  obtain ⟨n, h1, h2, h3, h4, h5, h6⟩ := h.2.2.2.2.1
  have en : n = 3 := (nI_eq (by omega) (by omega)).mp (h2.symm.trans hn)
  subst en
  have q : SQ (bB2 (gsub (gI x 0 13 (nI 2)) e_shX_shBB_14_105)) (bP2 (gsub (gput (gI x 0 13 (nI 2)) e_shX_shBB_14_105 (cpB (gsub (gI x 0 13 (nI 2)) e_shX_shBB_14_105))) e_shX_shPP_40_118)) (fun k => m.1 1 (1362 + k)) (fun k => m.2 2 (18 + k)) := h6 (by omega)
  have qc := q.copy
  have ep : F_X5_copyFrom (gsub (gput (gI x 0 13 (nI 2)) e_shX_shBB_14_105 (cpB (gsub (gI x 0 13 (nI 2)) e_shX_shBB_14_105))) e_shX_shPP_40_118) = _ := x_copyP q
  unfold F_X10_undo F_X11_undo
  rw [hn, hm, if_pos (show 0 < nI 3 by decide), show nI 3 - (1 : Int32) = nI 2 from nI_pred 2, if_neg (show ¬ nI 2 = (0 : Int32) by decide), if_neg (show ¬ nI 2 = (1 : Int32) by decide), if_pos (show nI 2 = (2 : Int32) by decide), if_neg (show ¬ nI 3 = 0 by decide)]
  simp only [F_X10_answer, F_X10_refuse, F_X10_answerOrRefuse, F_X10_grant, F_X10_deny, F_X11_gives, F_X11_refuse, F_X11_orNone, F_X11_is, Option.bind_some, ite01, x_copyB, ep]
  rw [show (0 : Int32) = nI 0 from rfl, m_copies (m := m) (f := 3) (t := 0) (by omega) (by omega) (by omega), Option.bind_some]
  have e39 : (pN (pA m (aCy (m.1 1) 3 0 454)) (nCy (m.2 2) 3 0 6)).1 0 39 - (1 : Int32) = nI 2 := by
    show m.1 0 39 - (1 : Int32) = nI 2
    rw [hm]
    exact nI_pred 2
  rw [e39]
  refine ⟨nI 2, _, _, rfl, rfl, RR.st ?_ (nI 0)⟩
  refine ⟨h.1, h.2.1, h.2.2.1, ?_, ⟨2, by omega, rfl, rfl, ?_, ?_, ?_⟩, h.2.2.2.2.2⟩
  · exact qc.mv (fun _ _ _ _ _ _ q => q) (fun _ _ _ q => q) (fun k hk => by have := aCy_in (a := m.1 1) (f := 3) (t := 0) hk; rw [Nat.mul_zero, Nat.zero_add] at this; exact this) (fun k hk => by have := nCy_in (a := m.2 2) (f := 3) (t := 0) hk; rw [Nat.mul_zero, Nat.zero_add] at this; exact this)
  · intro _
    exact (h4 (by omega)).mv (fun _ _ _ _ _ _ q => q) (fun _ _ _ q => q) (fun k hk => aCy_out (by omega)) (fun k hk => nCy_out (by omega))
  · intro _
    exact (h5 (by omega)).mv (fun _ _ _ _ _ _ q => q) (fun _ _ _ q => q) (fun k hk => aCy_out (by omega)) (fun k hk => nCy_out (by omega))
  · intro hq; omega
theorem s_mark (h : RR x m) : Sm (F_X10_mark x) (F_X11_mark m) := by
  obtain ⟨n, h1, h2, h3, _⟩ := h.2.2.2.2.1
  have : n = 0 ∨ n = 1 ∨ n = 2 ∨ n = 3 := by omega
  rcases this with rfl | rfl | rfl | rfl
  · exact s_mark0 h h2 h3
  · exact s_mark1 h h2 h3
  · exact s_mark2 h h2 h3
  · unfold F_X10_mark F_X11_mark
    rw [h2, h3, if_neg (by decide), if_pos (by decide)]
    exact Sm.fin h _ _
theorem s_undo (h : RR x m) : Sm (F_X10_undo x) (F_X11_undo m) := by
  obtain ⟨n, h1, h2, h3, _⟩ := h.2.2.2.2.1
  have : n = 0 ∨ n = 1 ∨ n = 2 ∨ n = 3 := by omega
  rcases this with rfl | rfl | rfl | rfl
  · unfold F_X10_undo F_X11_undo
    rw [h2, h3, if_neg (by decide), if_pos (by decide)]
    exact Sm.fin h _ _
  · exact s_undo1 h h2 h3
  · exact s_undo2 h h2 h3
  · exact s_undo3 h h2 h3
end
