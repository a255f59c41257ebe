/-! The rounds go on or are over, on both sides. -/
section
variable {p m w : GW} {A : Nat → Int32} {nm : Nat → Int64} {nc nr nk M : Nat} {y0 p0 : Int32} {a c16 c17 : Nat → Int32} {S N : Nat} {n : Int32}
theorem go_over {n1 s x7 : Nat} {y z : Int32} {w' : GW} {v : Int32} (h7 : x7 < 1000000) (h1 : F_X3_isRoundOver w (nI s) = some 1) (hs : s < 1000) (h2 : F_X3_behindRound (nI s) w = some (v, w')) : f_X3_goThrough_23 (n1 + 1) y z (nI s) (nI x7) w = f_X3_goThrough_23 n1 y z v (nI (x7 + 1)) w' := by
  show b_X3_goThrough_23 _ y z (nI s) (nI x7) w = _
  unfold b_X3_goThrough_23 f_X3_goThrough_63
  rw [if_neg (nI_geL h7 (by omega)), if_neg (nI_nm (by omega)), h1, Option.bind_some, if_neg one_ne, h2, Option.bind_some, nI_1]
theorem upd_same (f : Nat → Int32) (k : Nat) : upd f k (f k) = f := by
  funext j
  by_cases e : j = k
  · rw [e, pk_us]
  · rw [pk_un e]
theorem m_stop (hP : Pr p A nk nc M) (h7 : A 7 = nI M) (ha : ∀ k, 86 ≤ k → a k = A k) (ha7 : a 7 = A 7) {i : Nat} (hi : i ≤ M) (hi2 : i = M ∨ ¬ rK A i = (25 : Int32)) (k2 : Int32 → GW → Option (Int32 × GW)) : b_X11_behindEnds_2 k2 (nI i) (mZ m a c16 c17 (nI S) n) = some (nI i, mZ m a c16 c17 (nI S) n) := by
  have hMb := hP.bound
  unfold b_X11_behindEnds_2
  rw [Z_1, ha7, h7]
  by_cases e : i = M
  · rw [if_pos (nI_le (by omega) (by omega))]
  · rw [if_neg (nI_ge (by omega) (by omega)), row_ix, if_pos (gin_nI (by omega) (by omega)), nI_clamp (n := 86 + 6 * i) (by omega), ha _ (by omega)]
    rcases hi2 with q | q
    · exact absurd q e
    · exact if_neg q
theorem m_empty (hP : Pr p A nk nc M) (h7 : A 7 = nI M) (ha : ∀ k, 86 ≤ k → a k = A k) (ha7 : a 7 = A 7) {o : Nat} {l : List Nat} (hi : o + 1 < M) (h25 : rK A (o + 1) = (25 : Int32)) (hs : skN (rK A) (o + 1) = o :: l) (h24 : A (86 + 6 * o) = (24 : Int32)) : ∀ y n1 c16, y ≤ 98 → c16 o = nI y → f_X11_behindEnds_2 (n1 + y + 1) (nI (o + 1)) (mZ m a c16 c17 (nI S) n) = f_X11_behindEnds_2 n1 (nI (o + 2)) (mZ m a (upd c16 o (nI 0)) c17 (nI S) n) := by
  intro y
  induction y with
  | zero =>
    intro n1 c16 _ hc
    show b_X11_behindEnds_2 _ (nI (o + 1)) _ = _
    rw [m_end hP h7 ha ha7 hi h25 hs, if_pos h24, hc, if_pos (by decide), Int32.sub_zero]
  | succ y ih =>
    intro n1 c16 hy hc
    show b_X11_behindEnds_2 _ (nI (o + 1)) _ = _
    rw [m_end hP h7 ha ha7 hi h25 hs, if_pos h24, hc, if_neg (nI_nlz (by omega) (by omega)), show nI (y + 1) - (1 : Int32) = nI y from nI_sub (a := y + 1) (b := 1) (by omega)]
    have h := ih n1 (upd c16 o (nI y)) (by omega) pk_us
    rw [show n1 + (y + 1) = n1 + y + 1 by omega, h]
    have e : upd (upd c16 o (nI y)) o (nI 0) = upd c16 o (nI 0) := by
      funext j
      by_cases e : j = o
      · rw [e, pk_us, pk_us]
      · rw [pk_un e, pk_un e, pk_un e]
    rw [e]
theorem l_ends (hP : Pr p A nk nc M) (hM : skN (rK A) M = []) (hN : p.1 0 1 = nI (rkN (rK A) M)) (h7 : A 7 = nI M) : ∀ K i w c16, M - i ≤ K → i ≤ M → LQ p A nm nc nr nk y0 p0 w a c17 S N → PS w A c16 i →
    ∃ i' t w' c16', i' ≤ M ∧ (i' = M ∨ ¬ rK A i' = (25 : Int32)) ∧ t ≤ K ∧ (∀ n2, f_X11_behindEnds_2 (n2 + 100 * K + 1) (nI i) (mZ m a c16 c17 (nI S) n) = some (nI i', mZ m a c16' c17 (nI S) n)) ∧ LQ p A nm nc nr nk y0 p0 w' a c17 S N ∧ PS w' A c16' i' ∧
    ∀ y z n1 x7, x7 + t < 1000000 → f_X3_goThrough_23 (n1 + t) y z (nI (rkN (rK A) i)) (nI x7) w = f_X3_goThrough_23 n1 y z (nI (rkN (rK A) i')) (nI (x7 + t)) w' := by
  have hMb := hP.bound
  have h30 := hP.1
  intro K
  induction K with
  | zero =>
    intro i w c16 hK hi h hs
    have e : i = M := by omega
    exact ⟨i, 0, w, c16, hi, Or.inl e, Nat.le_refl 0, fun n2 => m_stop hP h7 h.2.2.1 h.2.2.2.1 hi (Or.inl e) _, h, hs, fun _ _ _ _ _ => rfl⟩
  | succ K ih =>
    intro i w c16 hK hi h hs
    by_cases e : i = M ∨ ¬ rK A i = (25 : Int32)
    · exact ⟨i, 0, w, c16, hi, e, Nat.zero_le _, fun n2 => m_stop hP h7 h.2.2.1 h.2.2.2.1 hi e _, h, hs, fun _ _ _ _ _ => rfl⟩
    · have hiM : i < M := by
        rcases Nat.lt_or_ge i M with q | q
        · exact q
        · exact absurd (Or.inl (by omega)) e
      have h25 : rK A i = (25 : Int32) := Classical.byContradiction (fun q => e (Or.inr q))
      obtain ⟨o, l, hl, _⟩ := hP.2.2.2.1 i hiM h25
      have ho : o < i := skN_lt i (by rw [hl]; exact List.mem_cons_self)
      have htop := skN_top i i (Nat.le_refl i) hl
      have hsn : skN (rK A) (i + 1) = l := by rw [skN_end h25, hl]; rfl
      have hol : ∀ q, q ∈ l → q ≠ o := fun q hq z => by
        rw [← htop.1, z] at hq
        have := skN_lt o hq
        omega
      have hrk : rkN (rK A) (i + 1) = rkN (rK A) i := rkN_end h25
      obtain ⟨d, hd, hst⟩ := hs
      rw [hl] at hst
      have hst2 : if rK A o = (24 : Int32) then ∃ y, y ≤ 98 ∧ c16 o = nI y ∧ (if rK A (o + 1) = (25 : Int32) then StN (rK A) (w.1 1) (w.1 2) c16 l d else ∃ d', d = d' + 1 ∧ w.1 1 d' = nI (rkN (rK A) o) ∧ w.1 2 d' = nI y ∧ StN (rK A) (w.1 1) (w.1 2) c16 l d') else StN (rK A) (w.1 1) (w.1 2) c16 l d := hst
      have hd3 : d ≤ 3 := by
        have h1 := StN_len _ hst
        have h2 := hP.2.2.1 i hi
        rw [hl] at h2
        omega
      by_cases h24 : rK A o = (24 : Int32)
      · rw [if_pos h24] at hst2
        obtain ⟨y, hy, hc, hst3⟩ := hst2
        by_cases hem : rK A (o + 1) = (25 : Int32)
        · rw [if_pos hem] at hst3
          have hso : skN (rK A) (o + 1) = o :: l := by rw [skN_op htop.2, htop.1]
          have hio : i = o + 1 := by
            have := skN_in hso hem (i := i) (by rw [hl]; exact List.mem_cons_self)
            omega
          subst hio
          obtain ⟨i', t, w', c', q1, q2, q3, q4, q5, q6, q7⟩ := ih (o + 1 + 1) w (upd c16 o (nI 0)) (by omega) (by omega) h ⟨d, hd, by rw [hsn]; exact StN_congr l hst3 (fun q hq => pk_un (hol q hq)) (fun _ _ => ⟨rfl, rfl⟩)⟩
          refine ⟨i', t, w', c', q1, q2, by omega, fun n2 => ?_, q5, q6, ?_⟩
          · have q8 := m_empty (m := m) (a := a) (c17 := c17) (S := S) (n := n) hP h7 h.2.2.1 h.2.2.2.1 hiM hem hl h24 y (n2 + (99 - y) + 100 * K + 1) c16 hy hc
            rw [show n2 + (99 - y) + 100 * K + 1 + y + 1 = n2 + 100 * (K + 1) + 1 by omega] at q8
            rw [q8, show n2 + (99 - y) + 100 * K + 1 = (n2 + (99 - y)) + 100 * K + 1 by omega]
            exact q4 _
          · rw [← hrk]; exact q7
        · rw [if_neg hem] at hst3
          obtain ⟨d', e1, e2, e3, e4⟩ := hst3
          subst e1
          have hlo : rkN (rK A) o < rkN (rK A) M := by
            have := rk_lt (A := A) (op_n25 htop.2) (show o < M by omega)
            omega
          obtain ⟨e0, l0, z1, z2, z3, z4, z5, z6⟩ := hP.op hM (o := o) (by omega) htop.2
          have hie : e0 = i := by
            have z7 := skN_in z4 z3 (i := i) (by rw [hl]; exact List.mem_cons_self)
            have z8 := skN_in hl h25 (i := e0) (by rw [z4]; exact List.mem_cons_self)
            omega
          rw [hie] at z6
          have hov := x_over hP hN h (i := i) (o := o) (by omega) hd e2 hlo z6
          have hri := rkN_mono (rK A) hi
          by_cases hy0 : y = 0
          · subst hy0
            have hbe := x_behind (w := w) (d := d') (by omega) hd (nI (rkN (rK A) i)) hy e3
            rw [if_pos rfl] at hbe
            obtain ⟨i', t, w', c', q1, q2, q3, q4, q5, q6, q7⟩ := ih (i + 1) (gI w 0 7 (nI d')) c16 (by omega) (by omega) (h.c7 _) ⟨d', rfl, by rw [hsn]; exact e4⟩
            refine ⟨i', t + 1, w', c', q1, q2, by omega, fun n2 => ?_, q5, q6, fun y z n1 x7 hx => ?_⟩
            · show b_X11_behindEnds_2 _ (nI i) _ = _
              rw [m_end hP h7 h.2.2.1 h.2.2.2.1 hiM h25 hl, if_pos (show A (86 + 6 * o) = 24 from h24), if_pos (by rw [hc]; decide), Int32.sub_zero, upd_same, show n2 + 100 * (K + 1) = (n2 + 99) + 100 * K + 1 by omega]
              exact q4 _
            · rw [← Nat.add_assoc, go_over (by omega) hov (by omega) hbe, ← hrk, q7 y z n1 (x7 + 1) (by omega), show x7 + 1 + t = x7 + (t + 1) by omega]
          · have hbe := x_behind (w := w) (d := d') (by omega) hd (nI (rkN (rK A) i)) hy e3
            rw [if_neg hy0, e2, nI_1, ← rkN_row (op_n25 htop.2)] at hbe
            have hM1 : o + 1 ≤ M := by omega
            refine ⟨o + 1, 1, gI w 2 d' (nI (y - 1)), upd c16 o (nI (y - 1)), hM1, Or.inr hem, by omega, fun n2 => ?_, h.c2 _ _, ⟨d' + 1, hd, ?_⟩, fun y z n1 x7 hx => go_over (by omega) hov (by omega) hbe⟩
            · show b_X11_behindEnds_2 _ (nI i) _ = _
              rw [m_end hP h7 h.2.2.1 h.2.2.2.1 hiM h25 hl, if_pos (show A (86 + 6 * o) = 24 from h24), if_neg (by rw [hc]; exact nI_nlz (by omega) hy0), hc, show nI y - (1 : Int32) = nI (y - 1) from nI_sub (a := y) (b := 1) (by omega), show n2 + 100 * (K + 1) = (n2 + 99 + 100 * K) + 1 by omega]
              exact m_stop hP h7 h.2.2.1 h.2.2.2.1 hM1 (Or.inr hem) _
            · rw [skN_op htop.2, htop.1]
              show if rK A o = (24 : Int32) then _ else _
              rw [if_pos h24]
              refine ⟨y - 1, by omega, pk_us, ?_⟩
              rw [if_neg hem]
              refine ⟨d', rfl, e2, ?_, StN_congr l e4 (fun q hq => pk_un (hol q hq)) (fun k hk => ⟨rfl, ?_⟩)⟩
              · show (if 2 = 2 ∧ d' = d' then nI (y - 1) else _) = _
                rw [if_pos ⟨rfl, rfl⟩]
              · show (if 2 = 2 ∧ k = d' then nI (y - 1) else w.1 2 k) = _
                rw [if_neg (by omega)]
      · rw [if_neg h24] at hst2
        obtain ⟨i', t, w', c', q1, q2, q3, q4, q5, q6, q7⟩ := ih (i + 1) w c16 (by omega) (by omega) h ⟨d, hd, by rw [hsn]; exact hst2⟩
        refine ⟨i', t, w', c', q1, q2, by omega, fun n2 => ?_, q5, q6, ?_⟩
        · show b_X11_behindEnds_2 _ (nI i) _ = _
          rw [m_end hP h7 h.2.2.1 h.2.2.2.1 hiM h25 hl, if_neg (show ¬ A (86 + 6 * o) = 24 from h24), Int32.sub_zero, upd_same, show n2 + 100 * (K + 1) = (n2 + 99) + 100 * K + 1 by omega]
          exact q4 _
        · rw [← hrk]; exact q7
end
