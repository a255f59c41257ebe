/-! The law's loop says yes, whatever the script is. -/
def gApp (n : Nat) (w1 w2 : GW) : GW := (fun i k => if i < n then w1.1 i k else w2.1 (i - n) k, fun i k => if i < n then w1.2 i k else w2.2 (i - n) k)
theorem gix_X : ∀ i : Fin 138, gix e_shXM_shX_0 i.val = i.val := by decide +kernel
theorem gix_M : ∀ i : Fin 19, gix e_shXM_shM_138 i.val = 138 + i.val := by decide +kernel
theorem gf_X : ∀ i : Fin 138, gfind e_shXM_shX_0 i.val = some i.val := by decide +kernel
theorem gf_XM : ∀ i : Fin 19, gfind e_shXM_shX_0 (138 + i.val) = none := by decide +kernel
theorem gf_M : ∀ i : Fin 19, gfind e_shXM_shM_138 (138 + i.val) = some i.val := by decide +kernel
theorem gf_MX : ∀ i : Fin 138, gfind e_shXM_shM_138 i.val = none := by decide +kernel
theorem gix_b14 : ∀ i : Fin 13, gix e_shX_shB_14 i.val < 138 := by decide +kernel
theorem gix_p40 : ∀ i : Fin 8, gix e_shX_shP_40 i.val < 138 := by decide +kernel
theorem gix_b61 : ∀ i : Fin 13, gix e_shX_shBB_61_14 i.val < 138 := by decide +kernel
theorem gix_p74 : ∀ i : Fin 8, gix e_shX_shPP_74_40 i.val < 138 := by decide +kernel
theorem gix_b83 : ∀ i : Fin 13, gix e_shX_shBB_83_14 i.val < 138 := by decide +kernel
theorem gix_p96 : ∀ i : Fin 8, gix e_shX_shPP_96_40 i.val < 138 := by decide +kernel
theorem gix_b105 : ∀ i : Fin 13, gix e_shX_shBB_105_14 i.val < 138 := by decide +kernel
theorem gix_p118 : ∀ i : Fin 8, gix e_shX_shPP_118_40 i.val < 138 := by decide +kernel
section
variable {x m x' m' w : GW}
theorem SQ.cg {eb ep : List Nat} {a a' : Nat → Int32} {nm nm' : Nat → Int64} (h : SQ (gsub x eb) (gsub x ep) a nm) (hb : ∀ i : Fin 13, gix eb i.val < 138) (hp : ∀ i : Fin 8, gix ep i.val < 138) (hx : ∀ i, i < 138 → x'.1 i = x.1 i ∧ x'.2 i = x.2 i) (ha : a' = a) (hn : nm' = nm) : SQ (gsub x' eb) (gsub x' ep) a' nm' := by
  subst ha hn
  exact h.congr (fun i k hi => congrFun (hx _ (hb ⟨i, hi⟩)).1 k) (fun k => congrFun (hx _ (hb ⟨4, by omega⟩)).2 k) (fun i k hi => congrFun (hx _ (hp ⟨i, hi⟩)).1 k) (fun _ _ => rfl) (fun _ _ => rfl)
theorem RR.cg (h : RR x m) (hx : ∀ i, i < 138 → x'.1 i = x.1 i ∧ x'.2 i = x.2 i) (hm : ∀ i, i < 19 → m'.1 i = m.1 i ∧ m'.2 i = m.2 i) : RR x' m' := by
  obtain ⟨h1, h2, h3, h4, h5, h6⟩ := h
  refine ⟨?_, ?_, ?_, ?_, ?_, ?_⟩
  · unfold Rst at h1 ⊢
    rw [(hx 0 (by omega)).1, (hx 0 (by omega)).2, (hm 0 (by omega)).1, (hm 0 (by omega)).2]
    exact h1
  · unfold Rtr trT at h2 ⊢
    rw [(hx 7 (by omega)).1, (hx 8 (by omega)).1, (hx 3 (by omega)).2, (hx 4 (by omega)).2, (hx 5 (by omega)).2, (hx 6 (by omega)).2, (hm 3 (by omega)).1, (hm 4 (by omega)).1, (hm 5 (by omega)).2]
    exact h2
  · unfold Rtp at h3 ⊢
    rw [(hx 9 (by omega)).1, (hx 10 (by omega)).1, (hm 0 (by omega)).1, (hm 6 (by omega)).1]
    exact h3
  · unfold Rbk at h4 ⊢
    exact h4.cg gix_b14 gix_p40 hx (hm 1 (by omega)).1 (hm 2 (by omega)).2
  · unfold Rmk at h5 ⊢
    rw [(hx 0 (by omega)).1, (hm 0 (by omega)).1]
    obtain ⟨n, q1, q2, q3, q4, q5, q6⟩ := h5
    refine ⟨n, q1, q2, q3, fun z => ?_, fun z => ?_, fun z => ?_⟩
    · exact (q4 z).cg gix_b61 gix_p74 hx (by rw [(hm 1 (by omega)).1]) (by rw [(hm 2 (by omega)).2])
    · exact (q5 z).cg gix_b83 gix_p96 hx (by rw [(hm 1 (by omega)).1]) (by rw [(hm 2 (by omega)).2])
    · exact (q6 z).cg gix_b105 gix_p118 hx (by rw [(hm 1 (by omega)).1]) (by rw [(hm 2 (by omega)).2])
  · unfold Rlv at h6 ⊢
    rw [(hx 0 (by omega)).1, (hx 126 (by omega)).1, (hm 0 (by omega)).1, (hm 18 (by omega)).1]
    exact h6
def RV (w : GW) : Prop := RR (gsub w e_shXM_shX_0) (gsub w e_shXM_shM_138)
theorem gsX (w : GW) {i : Nat} (hi : i < 138) : (gsub w e_shXM_shX_0).1 i = w.1 i ∧ (gsub w e_shXM_shX_0).2 i = w.2 i := by
  have e : gix e_shXM_shX_0 i = i := gix_X ⟨i, hi⟩
  exact ⟨by show w.1 (gix e_shXM_shX_0 i) = _; rw [e], by show w.2 (gix e_shXM_shX_0 i) = _; rw [e]⟩
theorem gsM (w : GW) {i : Nat} (hi : i < 19) : (gsub w e_shXM_shM_138).1 i = w.1 (138 + i) ∧ (gsub w e_shXM_shM_138).2 i = w.2 (138 + i) := by
  have e : gix e_shXM_shM_138 i = 138 + i := gix_M ⟨i, hi⟩
  exact ⟨by show w.1 (gix e_shXM_shM_138 i) = _; rw [e], by show w.2 (gix e_shXM_shM_138 i) = _; rw [e]⟩
theorem gpX (w u : GW) {i : Nat} (hi : i < 138) : (gput w e_shXM_shX_0 u).1 i = u.1 i ∧ (gput w e_shXM_shX_0 u).2 i = u.2 i := by
  have e : gfind e_shXM_shX_0 i = some i := gf_X ⟨i, hi⟩
  constructor
  · funext k
    show (match gfind e_shXM_shX_0 i with | some j => u.1 j k | none => w.1 i k) = _
    rw [e]
  · funext k
    show (match gfind e_shXM_shX_0 i with | some j => u.2 j k | none => w.2 i k) = _
    rw [e]
theorem gpXn (w u : GW) {i : Nat} (hi : i < 19) : (gput w e_shXM_shX_0 u).1 (138 + i) = w.1 (138 + i) ∧ (gput w e_shXM_shX_0 u).2 (138 + i) = w.2 (138 + i) := by
  have e : gfind e_shXM_shX_0 (138 + i) = none := gf_XM ⟨i, hi⟩
  constructor
  · funext k
    show (match gfind e_shXM_shX_0 (138 + i) with | some j => u.1 j k | none => w.1 (138 + i) k) = _
    rw [e]
  · funext k
    show (match gfind e_shXM_shX_0 (138 + i) with | some j => u.2 j k | none => w.2 (138 + i) k) = _
    rw [e]
theorem gpM (w u : GW) {i : Nat} (hi : i < 19) : (gput w e_shXM_shM_138 u).1 (138 + i) = u.1 i ∧ (gput w e_shXM_shM_138 u).2 (138 + i) = u.2 i := by
  have e : gfind e_shXM_shM_138 (138 + i) = some i := gf_M ⟨i, hi⟩
  constructor
  · funext k
    show (match gfind e_shXM_shM_138 (138 + i) with | some j => u.1 j k | none => w.1 (138 + i) k) = _
    rw [e]
  · funext k
    show (match gfind e_shXM_shM_138 (138 + i) with | some j => u.2 j k | none => w.2 (138 + i) k) = _
    rw [e]
theorem gpMn (w u : GW) {i : Nat} (hi : i < 138) : (gput w e_shXM_shM_138 u).1 i = w.1 i ∧ (gput w e_shXM_shM_138 u).2 i = w.2 i := by
  have e : gfind e_shXM_shM_138 i = none := gf_MX ⟨i, hi⟩
  constructor
  · funext k
    show (match gfind e_shXM_shM_138 i with | some j => u.1 j k | none => w.1 i k) = _
    rw [e]
  · funext k
    show (match gfind e_shXM_shM_138 i with | some j => u.2 j k | none => w.2 i k) = _
    rw [e]
/-- after a call of both, both are related again -/
theorem RV.next {u v : GW} (h : RR u v) : RV (gput (gput w e_shXM_shX_0 u) e_shXM_shM_138 v) := by
  refine h.cg (fun i hi => ?_) (fun i hi => ?_)
  · rw [(gsX _ hi).1, (gsX _ hi).2, (gpMn _ v hi).1, (gpMn _ v hi).2, (gpX w u hi).1, (gpX w u hi).2]
    exact ⟨rfl, rfl⟩
  · rw [(gsM _ hi).1, (gsM _ hi).2, (gpM _ v hi).1, (gpM _ v hi).2]
    exact ⟨rfl, rfl⟩
theorem RV.mid (h : RV w) (u : GW) : RR (gsub w e_shXM_shX_0) (gsub (gput w e_shXM_shX_0 u) e_shXM_shM_138) := by
  refine RR.cg h (fun i hi => ⟨rfl, rfl⟩) (fun i hi => ?_)
  rw [(gsM _ hi).1, (gsM _ hi).2, (gpXn w u hi).1, (gpXn w u hi).2, (gsM w hi).1, (gsM w hi).2]
  exact ⟨rfl, rfl⟩
theorem lc (h : RV w) (F1 F2 : GW → Option (Int32 × GW)) (K : GW → Option Unit) (hs : ∀ x m, RR x m → Sm (F1 x) (F2 m)) (hK : ∀ w', RV w' → K w' = some ()) : ((F1 (gsub w e_shXM_shX_0)).bind fun q => ((F2 (gsub (gput w e_shXM_shX_0 q.2) e_shXM_shM_138)).bind fun q' => (if q.1 = q'.1 then K (gput (gput w e_shXM_shX_0 q.2) e_shXM_shM_138 q'.2) else none))) = some () := by
  obtain ⟨r, u, v, e1, _, _⟩ := hs _ _ h
  obtain ⟨r2, u2, v2, e3, e4, h2⟩ := hs _ _ (h.mid u)
  have e5 : (r, u) = (r2, u2) := Option.some.inj (e1.symm.trans e3)
  cases e5
  rw [e1, Option.bind_some, e4, Option.bind_some, if_pos rfl]
  exact hK _ (RV.next h2)
theorem lcL (h : RV w) (F1 F2 : GW → Option (Int64 × GW)) (K : GW → Option Unit) (hs : ∀ x m, RR x m → SmL (F1 x) (F2 m)) (hK : ∀ w', RV w' → K w' = some ()) : ((F1 (gsub w e_shXM_shX_0)).bind fun q => ((F2 (gsub (gput w e_shXM_shX_0 q.2) e_shXM_shM_138)).bind fun q' => (if (lg_cmp q.1 q'.1) = 0 then K (gput (gput w e_shXM_shX_0 q.2) e_shXM_shM_138 q'.2) else none))) = some () := by
  obtain ⟨r, u, v, e1, _, _⟩ := hs _ _ h
  obtain ⟨r2, u2, v2, e3, e4, h2⟩ := hs _ _ (h.mid u)
  have e5 : (r, u) = (r2, u2) := Option.some.inj (e1.symm.trans e3)
  cases e5
  have e6 : lg_cmp r r = 0 := (lgc_eq r r).mpr rfl
  rw [e1, Option.bind_some, e4, Option.bind_some, if_pos e6]
  exact hK _ (RV.next h2)
theorem lc0 {A : Option Int32} {B : Option Int32} {K : Option Unit} (h : A = B) (hA : ∃ r, A = some r) (hK : K = some ()) : (A.bind fun q => (B.bind fun q' => (if q = q' then K else none))) = some () := by
  obtain ⟨r, e⟩ := hA
  rw [← h, e, Option.bind_some, Option.bind_some, if_pos rfl, hK]
theorem lc0L {A : Option Int64} {B : Option Int64} {K : Option Unit} (h : A = B) (hA : ∃ r, A = some r) (hK : K = some ()) : (A.bind fun q => (B.bind fun q' => (if (lg_cmp q q') = 0 then K else none))) = some () := by
  obtain ⟨r, e⟩ := hA
  have e6 : lg_cmp r r = 0 := (lgc_eq r r).mpr rfl
  rw [← h, e, Option.bind_some, Option.bind_some, if_pos e6, hK]
theorem itS {c : Prop} [Decidable c] {A B : Option Unit} (h1 : c → A = some ()) (h2 : ¬ c → B = some ()) : (if c then A else B) = some () := by
  by_cases e : c
  · rw [if_pos e]; exact h1 e
  · rw [if_neg e]; exact h2 e
theorem itG {c : Prop} [Decidable c] {A B : Option Unit} (h : c) (h1 : A = some ()) : (if c then A else B) = some () := by
  rw [if_pos h]; exact h1
theorem law_end {L i : Nat} (hL : L ≤ 3072) (hi : i < 10000) (h : ¬ (Int32.ofNat L - (6 : Int32)) < nI i) : i + 6 ≤ L := by
  rcases Nat.lt_or_ge L 6 with z | z
  · exfalso
    have h0 : Int32.ofNat L - (6 : Int32) < (0 : Int32) := by
      rcases (show L = 0 ∨ L = 1 ∨ L = 2 ∨ L = 3 ∨ L = 4 ∨ L = 5 by omega) with rfl | rfl | rfl | rfl | rfl | rfl <;> decide
    have h1 : (0 : Int32) ≤ nI i := (nI_leI (a := 0) (by omega) (by omega)).mpr (by omega)
    exact h (Int32.lt_of_lt_of_le h0 h1)
  · rw [show Int32.ofNat L - (6 : Int32) = nI (L - 6) from nI_sub (a := L) (b := 6) z] at h
    rcases Nat.lt_or_ge L (i + 6) with y | y
    · exact absurd (nI_lt (by omega) (by omega)) h
    · exact y

theorem law_fault (w : GW) (u : Int32) : ∃ r, F_X10_fault w u = some r := by
  unfold F_X10_fault
  repeat' split
  all_goals exact ⟨_, rfl⟩
theorem law_loop {xs : Nat → Int32} {L : Nat} (hL : L ≤ 3072) : ∀ (d i n : Nat) (w : GW), L + 6 ≤ i + d → d < n → i ≤ 3080 → RV w → f_L_law_18 xs L n (nI i) w = some () := by
  intro d
  induction d with
  | zero =>
    intro i n w h1 h2 h3 hV
    obtain ⟨n, rfl⟩ := fu_pos h2
    show b_L_law_18 xs L _ (nI i) w = some ()
    unfold b_L_law_18
    refine itS (fun _ => rfl) (fun hc => ?_)
    have := law_end hL (by omega) hc
    omega
  | succ d ih =>
    intro i n w h1 h2 h3 hV
    obtain ⟨n, rfl⟩ := fu_pos (show 0 < n by omega)
    show b_L_law_18 xs L (f_L_law_18 xs L n) (nI i) w = some ()
    unfold b_L_law_18 f_L_law_1910
    refine itS (fun _ => rfl) (fun hc => ?_)
    have hi := law_end hL (by omega) hc
    have hK : ∀ w', RV w' → f_L_law_18 xs L n (nI i + (6 : Int32)) w' = some () := fun w' h => by
      rw [show nI i + (6 : Int32) = nI (i + 6) from nI_add i 6]
      exact ih (i + 6) n w' (by omega) (by omega) (by omega) h
    have hN := hK w hV
    have hg : ∀ c, c ≤ 5 → gin (nI i + nI c) L := fun c hc => by
      rw [nI_add]
      exact gin_nI (by omega) (by omega)
    refine itG (gin_nI (by omega) (by omega)) ?_
    refine itS (fun _ => lc0 (s_status hV) ⟨_, rfl⟩ hN) (fun _ => ?_)
    refine itS (fun _ => lc0L (s_top hV) ⟨_, rfl⟩ hN) (fun _ => ?_)
    refine itS (fun _ => lc0L (s_bottom hV) ⟨_, rfl⟩ hN) (fun _ => ?_)
    refine itS (fun _ => itG (hg 1 (by omega)) (itG (hg 2 (by omega)) (itG (hg 3 (by omega)) (lc hV (F_X10_tray _ _ _) (F_X11_tray _ _ _) (f_L_law_18 xs L n (nI i + (6 : Int32))) (fun x m h => s_tray h _ _ _) hK)))) (fun _ => ?_)
    refine itS (fun _ => itG (hg 1 (by omega)) (itG (hg 2 (by omega)) (itG (hg 3 (by omega)) (itG (hg 4 (by omega)) (lc hV (F_X10_write _ _ _) (F_X11_write _ _ _) (f_L_law_18 xs L n (nI i + (6 : Int32))) (fun x m h => s_write h _ _ _) hK))))) (fun _ => ?_)
    refine itS (fun _ => itG (hg 1 (by omega)) (itG (hg 2 (by omega)) (lcL hV (F_X10_read _ _) (F_X11_read _ _) (f_L_law_18 xs L n (nI i + (6 : Int32))) (fun x m h => s_read h _ _) hK))) (fun _ => ?_)
    refine itS (fun _ => itG (hg 1 (by omega)) (itG (hg 2 (by omega)) (itG (hg 3 (by omega)) (itG (hg 4 (by omega)) (itG (hg 5 (by omega)) (lc hV (F_X10_pour _ _ _ _ _) (F_X11_pour _ _ _ _ _) (f_L_law_18 xs L n (nI i + (6 : Int32))) (fun x m h => s_pour h _ _ _ _ _) hK)))))) (fun _ => ?_)
    refine itS (fun _ => itG (hg 1 (by omega)) (itG (hg 2 (by omega)) (itG (hg 3 (by omega)) (itG (hg 4 (by omega)) (itG (hg 5 (by omega)) (lc hV (F_X10_feed _ _ _ _ _) (F_X11_feed _ _ _ _ _) (f_L_law_18 xs L n (nI i + (6 : Int32))) (fun x m h => s_feed h _ _ _ _ _) hK)))))) (fun _ => ?_)
    refine itS (fun _ => itG (hg 1 (by omega)) (lc hV (F_X10_bank _) (F_X11_bank _) (f_L_law_18 xs L n (nI i + (6 : Int32))) (fun x m h => s_bank h _) hK)) (fun _ => ?_)
    refine itS (fun _ => itG (hg 1 (by omega)) (lc hV (F_X10_decades _) (F_X11_decades _) (f_L_law_18 xs L n (nI i + (6 : Int32))) (fun x m h => s_decades h _) hK)) (fun _ => ?_)
    refine itS (fun _ => itG (hg 1 (by omega)) (lc0 (s_fault hV _) (law_fault _ _) hN)) (fun _ => ?_)
    refine itS (fun _ => itG (hg 1 (by omega)) (lc hV (F_X10_told _) (F_X11_told _) (f_L_law_18 xs L n (nI i + (6 : Int32))) (fun x m h => s_told h _) hK)) (fun _ => ?_)
    refine itS (fun _ => itG (hg 1 (by omega)) (itG (hg 2 (by omega)) (lc hV (F_X10_corner _ _) (F_X11_corner _ _) (f_L_law_18 xs L n (nI i + (6 : Int32))) (fun x m h => s_corner h _ _) hK))) (fun _ => ?_)
    refine itS (fun _ => itG (hg 1 (by omega)) (itG (hg 2 (by omega)) (lc hV (F_X10_rank _ _) (F_X11_rank _ _) (f_L_law_18 xs L n (nI i + (6 : Int32))) (fun x m h => s_rank h _ _) hK))) (fun _ => ?_)
    refine itS (fun _ => itG (hg 1 (by omega)) (itG (hg 2 (by omega)) (lc hV (F_X10_clerk _ _) (F_X11_clerk _ _) (f_L_law_18 xs L n (nI i + (6 : Int32))) (fun x m h => s_clerk h _ _) hK))) (fun _ => ?_)
    refine itS (fun _ => itG (hg 1 (by omega)) (lc hV (F_X10_rankOf _) (F_X11_rankOf _) (f_L_law_18 xs L n (nI i + (6 : Int32))) (fun x m h => s_rankOf h _) hK)) (fun _ => ?_)
    refine itS (fun _ => itG (hg 1 (by omega)) (itG (hg 2 (by omega)) (lc hV (F_X10_client _ _) (F_X11_client _ _) (f_L_law_18 xs L n (nI i + (6 : Int32))) (fun x m h => s_client h _ _) hK))) (fun _ => ?_)
    refine itS (fun _ => itG (hg 1 (by omega)) (lc hV (F_X10_year _) (F_X11_year _) (f_L_law_18 xs L n (nI i + (6 : Int32))) (fun x m h => s_year h _) hK)) (fun _ => ?_)
    refine itS (fun _ => itG (hg 1 (by omega)) (itG (hg 2 (by omega)) (lc hV (F_X10_move _ _) (F_X11_move _ _) (f_L_law_18 xs L n (nI i + (6 : Int32))) (fun x m h => s_move h _ _) hK))) (fun _ => ?_)
    refine itS (fun _ => itG (hg 1 (by omega)) (itG (hg 2 (by omega)) (lc hV (F_X10_swap _ _) (F_X11_swap _ _) (f_L_law_18 xs L n (nI i + (6 : Int32))) (fun x m h => s_swap h _ _) hK))) (fun _ => ?_)
    refine itS (fun _ => itG (hg 1 (by omega)) (itG (hg 2 (by omega)) (lc hV (F_X10_fan _ _) (F_X11_fan _ _) (f_L_law_18 xs L n (nI i + (6 : Int32))) (fun x m h => s_fan h _ _) hK))) (fun _ => ?_)
    refine itS (fun _ => itG (hg 1 (by omega)) (lc hV (F_X10_dust _) (F_X11_dust _) (f_L_law_18 xs L n (nI i + (6 : Int32))) (fun x m h => s_dust h _) hK)) (fun _ => ?_)
    refine itS (fun _ => itG (hg 1 (by omega)) (lc hV (F_X10_look _) (F_X11_look _) (f_L_law_18 xs L n (nI i + (6 : Int32))) (fun x m h => s_look h _) hK)) (fun _ => ?_)
    refine itS (fun _ => lc hV (F_X10_run) (F_X11_run) (f_L_law_18 xs L n (nI i + (6 : Int32))) (fun x m h => s_run h) hK) (fun _ => ?_)
    refine itS (fun _ => itG (hg 1 (by omega)) (lc hV (F_X10_hire _) (F_X11_hire _) (f_L_law_18 xs L n (nI i + (6 : Int32))) (fun x m h => s_hire h _) hK)) (fun _ => ?_)
    refine itS (fun _ => itG (hg 1 (by omega)) (itG (hg 2 (by omega)) (lc hV (F_X10_open _ _) (F_X11_open _ _) (f_L_law_18 xs L n (nI i + (6 : Int32))) (fun x m h => s_open h _ _) hK))) (fun _ => ?_)
    refine itS (fun _ => itG (hg 1 (by omega)) (itG (hg 2 (by omega)) (lc hV (F_X10_calm _ _) (F_X11_calm _ _) (f_L_law_18 xs L n (nI i + (6 : Int32))) (fun x m h => s_calm h _ _) hK))) (fun _ => ?_)
    refine itS (fun _ => itG (hg 1 (by omega)) (itG (hg 2 (by omega)) (lc hV (F_X10_rule _ _) (F_X11_rule _ _) (f_L_law_18 xs L n (nI i + (6 : Int32))) (fun x m h => s_rule h _ _) hK))) (fun _ => ?_)
    refine itS (fun _ => itG (hg 1 (by omega)) (itG (hg 2 (by omega)) (lc hV (F_X10_greyIn _ _) (F_X11_greyIn _ _) (f_L_law_18 xs L n (nI i + (6 : Int32))) (fun x m h => s_greyIn h _ _) hK))) (fun _ => ?_)
    refine itS (fun _ => itG (hg 1 (by omega)) (itG (hg 2 (by omega)) (lc hV (F_X10_rankIn _ _) (F_X11_rankIn _ _) (f_L_law_18 xs L n (nI i + (6 : Int32))) (fun x m h => s_rankIn h _ _) hK))) (fun _ => ?_)
    refine itS (fun _ => lc hV (F_X10_unpaidIn) (F_X11_unpaidIn) (f_L_law_18 xs L n (nI i + (6 : Int32))) (fun x m h => s_unpaidIn h) hK) (fun _ => ?_)
    refine itS (fun _ => itG (hg 1 (by omega)) (lc hV (F_X10_cashIn _) (F_X11_cashIn _) (f_L_law_18 xs L n (nI i + (6 : Int32))) (fun x m h => s_cashIn h _) hK)) (fun _ => ?_)
    refine itS (fun _ => itG (hg 1 (by omega)) (lc hV (F_X10_seating _) (F_X11_seating _) (f_L_law_18 xs L n (nI i + (6 : Int32))) (fun x m h => s_seating h _) hK)) (fun _ => ?_)
    refine itS (fun _ => itG (hg 1 (by omega)) (itG (hg 2 (by omega)) (lc hV (F_X10_seatOf _ _) (F_X11_seatOf _ _) (f_L_law_18 xs L n (nI i + (6 : Int32))) (fun x m h => s_seatOf h _ _) hK))) (fun _ => ?_)
    refine itS (fun _ => itG (hg 1 (by omega)) (lc hV (F_X10_liked _) (F_X11_liked _) (f_L_law_18 xs L n (nI i + (6 : Int32))) (fun x m h => s_liked h _) hK)) (fun _ => ?_)
    refine itS (fun _ => itG (hg 1 (by omega)) (itG (hg 2 (by omega)) (itG (hg 3 (by omega)) (lc hV (F_X10_isLiked _ _ _) (F_X11_isLiked _ _ _) (f_L_law_18 xs L n (nI i + (6 : Int32))) (fun x m h => s_isLiked h _ _ _) hK)))) (fun _ => ?_)
    refine itS (fun _ => itG (hg 1 (by omega)) (itG (hg 2 (by omega)) (lc hV (F_X10_soon _ _) (F_X11_soon _ _) (f_L_law_18 xs L n (nI i + (6 : Int32))) (fun x m h => s_soon h _ _) hK))) (fun _ => ?_)
    refine itS (fun _ => itG (hg 1 (by omega)) (itG (hg 2 (by omega)) (lc hV (F_X10_soonAt _ _) (F_X11_soonAt _ _) (f_L_law_18 xs L n (nI i + (6 : Int32))) (fun x m h => s_soonAt h _ _) hK))) (fun _ => ?_)
    refine itS (fun _ => itG (hg 1 (by omega)) (itG (hg 2 (by omega)) (itG (hg 3 (by omega)) (lc hV (F_X10_worth _ _ _) (F_X11_worth _ _ _) (f_L_law_18 xs L n (nI i + (6 : Int32))) (fun x m h => s_worth h _ _ _) hK)))) (fun _ => ?_)
    refine itS (fun _ => itG (hg 1 (by omega)) (itG (hg 2 (by omega)) (lc hV (F_X10_leastFan _ _) (F_X11_leastFan _ _) (f_L_law_18 xs L n (nI i + (6 : Int32))) (fun x m h => s_leastFan h _ _) hK))) (fun _ => ?_)
    refine itS (fun _ => itG (hg 1 (by omega)) (itG (hg 2 (by omega)) (lc hV (F_X10_fits _ _) (F_X11_fits _ _) (f_L_law_18 xs L n (nI i + (6 : Int32))) (fun x m h => s_fits h _ _) hK))) (fun _ => ?_)
    refine itS (fun _ => itG (hg 1 (by omega)) (itG (hg 2 (by omega)) (itG (hg 3 (by omega)) (lc hV (F_X10_fitsAt _ _ _) (F_X11_fitsAt _ _ _) (f_L_law_18 xs L n (nI i + (6 : Int32))) (fun x m h => s_fitsAt h _ _ _) hK)))) (fun _ => ?_)
    refine itS (fun _ => itG (hg 1 (by omega)) (itG (hg 2 (by omega)) (lc hV (F_X10_ask _ _) (F_X11_ask _ _) (f_L_law_18 xs L n (nI i + (6 : Int32))) (fun x m h => s_ask h _ _) hK))) (fun _ => ?_)
    refine itS (fun _ => lc hV (F_X10_comes) (F_X11_comes) (f_L_law_18 xs L n (nI i + (6 : Int32))) (fun x m h => s_comes h) hK) (fun _ => ?_)
    refine itS (fun _ => lc hV (F_X10_comesFor) (F_X11_comesFor) (f_L_law_18 xs L n (nI i + (6 : Int32))) (fun x m h => s_comesFor h) hK) (fun _ => ?_)
    refine itS (fun _ => lc hV (F_X10_calms) (F_X11_calms) (f_L_law_18 xs L n (nI i + (6 : Int32))) (fun x m h => s_calms h) hK) (fun _ => ?_)
    refine itS (fun _ => lc hV (F_X10_calmSet) (F_X11_calmSet) (f_L_law_18 xs L n (nI i + (6 : Int32))) (fun x m h => s_calmSet h) hK) (fun _ => ?_)
    refine itS (fun _ => itG (hg 1 (by omega)) (itG (hg 2 (by omega)) (lc hV (F_X10_game _ _) (F_X11_game _ _) (f_L_law_18 xs L n (nI i + (6 : Int32))) (fun x m h => s_game h _ _) hK))) (fun _ => ?_)
    refine itS (fun _ => itG (hg 1 (by omega)) (itG (hg 2 (by omega)) (lc hV (F_X10_who _ _) (F_X11_who _ _) (f_L_law_18 xs L n (nI i + (6 : Int32))) (fun x m h => s_who h _ _) hK))) (fun _ => ?_)
    refine itS (fun _ => itG (hg 1 (by omega)) (lc hV (F_X10_shams _) (F_X11_shams _) (f_L_law_18 xs L n (nI i + (6 : Int32))) (fun x m h => s_shams h _) hK)) (fun _ => ?_)
    refine itS (fun _ => itG (hg 1 (by omega)) (lc hV (F_X10_share _) (F_X11_share _) (f_L_law_18 xs L n (nI i + (6 : Int32))) (fun x m h => s_share h _) hK)) (fun _ => ?_)
    refine itS (fun _ => itG (hg 1 (by omega)) (lc hV (F_X10_copyGrey _) (F_X11_copyGrey _) (f_L_law_18 xs L n (nI i + (6 : Int32))) (fun x m h => s_copyGrey h _) hK)) (fun _ => ?_)
    refine itS (fun _ => itG (hg 1 (by omega)) (lc hV (F_X10_live _) (F_X11_live _) (f_L_law_18 xs L n (nI i + (6 : Int32))) (fun x m h => s_live h _) hK)) (fun _ => ?_)
    refine itS (fun _ => itG (hg 1 (by omega)) (lc hV (F_X10_lived _) (F_X11_lived _) (f_L_law_18 xs L n (nI i + (6 : Int32))) (fun x m h => s_lived h _) hK)) (fun _ => ?_)
    refine itS (fun _ => itG (hg 1 (by omega)) (itG (hg 2 (by omega)) (lc hV (F_X10_mean _ _) (F_X11_mean _ _) (f_L_law_18 xs L n (nI i + (6 : Int32))) (fun x m h => s_mean h _ _) hK))) (fun _ => ?_)
    refine itS (fun _ => lc hV (F_X10_mark) (F_X11_mark) (f_L_law_18 xs L n (nI i + (6 : Int32))) (fun x m h => s_mark h) hK) (fun _ => ?_)
    refine itS (fun _ => lc hV (F_X10_undo) (F_X11_undo) (f_L_law_18 xs L n (nI i + (6 : Int32))) (fun x m h => s_undo h) hK) (fun _ => ?_)
    exact hN
theorem rr_start {wm : GW} (h2 : wm.2 = wM0.2) (h1 : ∀ i, i ≠ 1 → wm.1 i = wM0.1 i) (ha : ∀ k, k < 454 → wm.1 1 (0 + k) = aPln k) : RR wX0 wm := by
  have hb : ∀ k, k < 454 → wm.1 1 k = aPln k := fun k hk => by
    have := ha k hk
    rw [Nat.zero_add] at this
    exact this
  refine ⟨⟨?_, ?_, ?_⟩, ⟨Or.inl ⟨rfl, ?_⟩, Or.inl ⟨rfl, ?_⟩, Or.inl ⟨rfl, ?_⟩, Or.inl ⟨rfl, ?_⟩⟩, ⟨⟨0, by omega, rfl, ?_, fun k hk => absurd hk (by omega)⟩, ?_, ?_⟩, ⟨0, 0, 0, 0, ?_, ?_, Or.inl ⟨rfl, ?_⟩⟩, ⟨0, by omega, rfl, ?_, fun h => absurd h (by omega), fun h => absurd h (by omega), fun h => absurd h (by omega)⟩, Or.inl ⟨rfl, ?_⟩⟩
  · rw [h1 0 (by omega)]; rfl
  · rw [h2]; rfl
  · rw [h2]; rfl
  · rw [h1 4 (by omega)]; rfl
  · rw [h1 4 (by omega)]; rfl
  · rw [h1 4 (by omega)]; rfl
  · rw [h1 4 (by omega)]; rfl
  · rw [h1 0 (by omega)]; rfl
  · rw [h1 0 (by omega)]; rfl
  · rw [h1 0 (by omega)]; rfl
  · refine ⟨⟨?_, ?_, ?_⟩, ⟨rfl, rfl, rfl, rfl⟩, fun k hk => absurd hk (by omega), fun k hk => absurd hk (by omega), fun k hk => absurd hk (by omega), fun k hk => absurd hk (by omega), fun k hk => absurd hk (by omega)⟩
    · rw [hb 4 (by omega)]; rfl
    · rw [hb 5 (by omega)]; rfl
    · rw [hb 6 (by omega)]; rfl
  · refine ⟨⟨?_, ?_, ?_, ?_⟩, by omega, ⟨4, by omega, ?_⟩, ⟨100, by omega, ?_⟩, fun k hk => absurd hk (by omega), fun k hk => absurd hk (by omega), fun k hk => absurd hk (by omega), fun j k hj => absurd hj (by omega), fun k hk => absurd hk (by omega)⟩
    · rw [hb 0 (by omega)]; rfl
    · rw [hb 1 (by omega)]; rfl
    · rw [hb 2 (by omega)]; rfl
    · rw [hb 3 (by omega)]; rfl
    · rw [hb 4 (by omega)]; rfl
    · rw [hb 5 (by omega)]; rfl
  · rw [hb 7 (by omega)]; rfl
  · rw [h1 0 (by omega)]; rfl
  · rw [h1 0 (by omega)]; rfl
theorem pure_law : ∃ wm : GW, F_X11_plain 0 wM0 = some wm ∧ ∀ (xs : Nat → Int32) (L : Nat), L ≤ 3072 → f_L_law_18 xs L FU 0 (gApp 138 wX0 wm) = some () := by
  obtain ⟨wm, g1, g2, g3, g4, g5⟩ := m_plain (s := 0) (by omega) wM0
  refine ⟨wm, g1, fun xs L hL => ?_⟩
  have hV : RV (gApp 138 wX0 wm) := by
    refine (rr_start g2 g3 g4).cg (fun i hi => ?_) (fun i hi => ?_)
    · rw [(gsX _ hi).1, (gsX _ hi).2]
      exact ⟨funext fun k => if_pos hi, funext fun k => if_pos hi⟩
    · rw [(gsM _ hi).1, (gsM _ hi).2]
      constructor
      · funext k
        show (if 138 + i < 138 then wX0.1 (138 + i) k else wm.1 (138 + i - 138) k) = wm.1 i k
        rw [if_neg (by omega), show 138 + i - 138 = i by omega]
      · funext k
        show (if 138 + i < 138 then wX0.2 (138 + i) k else wm.2 (138 + i - 138) k) = wm.2 i k
        rw [if_neg (by omega), show 138 + i - 138 = i by omega]
  exact law_loop hL (L + 6) 0 FU _ (by omega) (by have := FU_big; omega) (by omega) hV
end
