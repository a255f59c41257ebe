/-! To live, and the mean of many lives. -/
theorem gixLP {i : Nat} (h : i < 8) : gix e_shL_shP_16 i = 16 + i := (by decide : ∀ j : Fin 8, gix e_shL_shP_16 j.val = 16 + j.val) ⟨i, h⟩
theorem gixXP {i : Nat} (h : i < 8) : gix e_shX_shP_40 i = 40 + i := (by decide : ∀ j : Fin 8, gix e_shX_shP_40 j.val = 40 + j.val) ⟨i, h⟩
theorem gixXL {i : Nat} (h : i < 8) : gix e_shX_shL_126_14_40 (16 + i) = 40 + i := (by decide : ∀ j : Fin 8, gix e_shX_shL_126_14_40 (16 + j.val) = 40 + j.val) ⟨i, h⟩
theorem gixXS {i : Nat} (h : i < 8) : gix e_shX_shL_129_27_40 (16 + i) = 40 + i := (by decide : ∀ j : Fin 8, gix e_shX_shL_129_27_40 (16 + j.val) = 40 + j.val) ⟨i, h⟩
theorem gfXL {i : Nat} (h : i < 8) : gfind e_shX_shL_126_14_40 (40 + i) = some (16 + i) := (by decide : ∀ j : Fin 8, gfind e_shX_shL_126_14_40 (40 + j.val) = some (16 + j.val)) ⟨i, h⟩
theorem gfXS {i : Nat} (h : i < 8) : gfind e_shX_shL_129_27_40 (40 + i) = some (16 + i) := (by decide : ∀ j : Fin 8, gfind e_shX_shL_129_27_40 (40 + j.val) = some (16 + j.val)) ⟨i, h⟩
theorem gfBB {i : Nat} (h : i < 8) : gfind e_shX_shBB_27_14 (40 + i) = none := (by decide : ∀ j : Fin 8, gfind e_shX_shBB_27_14 (40 + j.val) = none) ⟨i, h⟩
section
variable {x m w : GW} {a c16 c17 : Nat → Int32} {nc nr nk nl : Nat} {nm : Nat → Int64}
theorem mZ_id : pA m a = mZ m a (m.1 16) (m.1 17) (m.1 0 33) (m.1 0 34) := by
  refine Prod.ext (funext fun i => ?_) rfl
  show (if i = 1 then a else m.1 i) = (if i = 1 then a else if i = 16 then m.1 16 else if i = 17 then m.1 17 else if i = 0 then upd (upd (m.1 0) 33 (m.1 0 33)) 34 (m.1 0 34) else m.1 i)
  by_cases h1 : i = 1
  · rw [if_pos h1, if_pos h1]
  · rw [if_neg h1, if_neg h1]
    by_cases h2 : i = 16
    · rw [if_pos h2, h2]
    · rw [if_neg h2]
      by_cases h3 : i = 17
      · rw [if_pos h3, h3]
      · rw [if_neg h3]
        by_cases h4 : i = 0
        · rw [if_pos h4, h4, upd_same, upd_same]
        · rw [if_neg h4]
theorem m_zero {n1 : Nat} {s n : Int32} {i : Nat} (hi : i < 5) : f_X11_lives_12 (n1 + 1) (nI i) (mZ m a c16 c17 s n) = f_X11_lives_12 n1 (nI (i + 1)) (mZ m a c16 (upd c17 i 0) s n) := by
  show b_X11_lives_12 _ (nI i) _ = _
  unfold b_X11_lives_12
  rw [if_neg (nI_geL (by show i < 5; omega) (by omega)), if_pos (gin_nI (by omega) (by omega)), nI_clamp (by omega), gI_Z17, nI_1]
def c0 (f : Nat → Int32) : Nat → Int32 := upd (upd (upd (upd (upd f 0 0) 1 0) 2 0) 3 0) 4 0
theorem m_lives0 (s : Int32) : F_X11_lives s (pA m a) = f_X11_lives_32 FU (nI 0) (mZ m a (m.1 16) (c0 (m.1 17)) s (nI 0)) := by
  unfold F_X11_lives
  rw [mZ_id, gI_Z33, gI_Z34]
  have key : ∀ F (c17 : Nat → Int32), f_X11_lives_12 (F + 6) (nI 0) (mZ m a (m.1 16) c17 s (nI 0)) = f_X11_lives_32 FU (nI 0) (mZ m a (m.1 16) (c0 c17) s (nI 0)) := by
    intro F c17
    rw [m_zero (by omega), m_zero (by omega), m_zero (by omega), m_zero (by omega), m_zero (by omega)]
    show b_X11_lives_12 _ (5 : Int32) _ = _
    unfold b_X11_lives_12
    rw [if_pos (by decide)]
    rfl
  have := key (FU - 6) (m.1 17)
  rw [show FU - 6 + 6 = FU by have := FU_big; omega] at this
  exact this
theorem life_both (hb : Bq (gsub w e_shL_shB_3) a (m.2 2) nc nr nk nl) (hi : Bi a nc nr nk nl) (hp : Pq (gsub w e_shL_shP_16) a nk nc) (h7 : a 7 ≠ (-1 : Int32)) {S : Nat} (hS : S ≤ 65535) :
    ∃ wF a' c16' c17' s' N', F_X3_goThrough (nI S) w = some wF ∧ F_X11_lives (nI S) (pA m a) = some (mZ m a' c16' c17' s' (nI N')) ∧ FN (gsub w e_shL_shP_16) a (m.2 2) nc nr nk wF a' c17' N' := by
  rcases hp with ⟨_, q⟩ | ⟨p0, M, pM, hP, hN, hM⟩
  · exact absurd q h7
  have hb2 : Bq (gsub (gI (gI (gI (gI (gI (gI w 0 0 (0 : Int32)) 0 1 (0 : Int32)) 0 4 (0 : Int32)) 0 5 (0 : Int32)) 0 6 (nI S)) 0 7 (0 : Int32)) e_shL_shB_3) a (m.2 2) nc nr nk nl := hb
  have hq : LQ (gsub w e_shL_shP_16) a (m.2 2) nc nr nk (a 6) (sTot a nk 5) (gI (gI (gI (gI (gI (gI w 0 0 (0 : Int32)) 0 1 (0 : Int32)) 0 4 (0 : Int32)) 0 5 (0 : Int32)) 0 6 (nI S)) 0 7 (0 : Int32)) a (c0 (m.1 17)) S 0 := by
    refine ⟨⟨nl, hb2, hi⟩, fun i hi k => ?_, fun _ _ => rfl, rfl, rfl, hS, rfl, rfl, rfl, rfl, rfl, (Int32.add_zero _).symm, (Int32.add_zero _).symm⟩
    rw [gI_ne _ _ _ _ (by omega), gI_ne _ _ _ _ (by omega), gI_ne _ _ _ _ (by omega), gI_ne _ _ _ _ (by omega), gI_ne _ _ _ _ (by omega), gI_ne _ _ _ _ (by omega)]
    show _ = w.1 (gix e_shL_shP_16 i) k
    rw [gixLP hi]
  have hps : PS (gI (gI (gI (gI (gI (gI w 0 0 (0 : Int32)) 0 1 (0 : Int32)) 0 4 (0 : Int32)) 0 5 (0 : Int32)) 0 6 (nI S)) 0 7 (0 : Int32)) a (m.1 16) 0 := ⟨0, rfl, rfl⟩
  by_cases hM0 : rK a 0 = (25 : Int32) ∧ M ≠ 0
  · obtain ⟨o, l, h1, _⟩ := hP.2.2.2.1 0 (by omega) hM0.1
    exact absurd h1 (by show ¬ ([] : List Nat) = o :: l; exact fun q => by injection q)
  obtain ⟨wF, a', c16', c17', s', N', k1, k2, k3⟩ := l_lives (m := m) hP hM hN pM rfl 300 0 (by omega) 0 _ a (m.1 16) (c0 (m.1 17)) S 0 FU (FU - 301) hq hps (Nat.zero_le _) (by
    by_cases e : M = 0
    · exact Or.inl e.symm
    · exact Or.inr (fun q => hM0 ⟨q, e⟩)) (by omega) (by have := FU_big; omega)
  refine ⟨wF, a', c16', c17', s', N', ?_, ?_, k3⟩
  · unfold F_X3_goThrough F_X3_begin
    rw [Option.bind_some, x_paid_all hb2 hi, Option.bind_some, show (gI (gI (gI (gI (gI (gI w 0 0 (0 : Int32)) 0 1 (0 : Int32)) 0 4 (0 : Int32)) 0 5 (0 : Int32)) 0 6 (nI S)) 0 7 (0 : Int32)).1 3 2 = a 6 from hb.year]
    exact k1
  · rw [m_lives0, show FU = FU - 301 + 300 + 1 by have := FU_big; omega]
    exact k2
end
