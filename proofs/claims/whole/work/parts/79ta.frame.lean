/-! The plan reader leaves the bank alone. -/
def FB (w w' : GW) : Prop := ∀ i, 7 ≤ i → i ≤ 19 → w'.1 i = w.1 i ∧ w'.2 i = w.2 i
def KB (w : GW) (o : Option (Int32 × GW)) : Prop := ∀ q, o = some q → FB w q.2
section
variable {w w0 : GW}
theorem FB.rf : FB w w := fun _ _ _ => ⟨rfl, rfl⟩
theorem FB.txt (h : FB w0 w) (u : GW) : FB w0 (gput w e_shPR_shT_2 u) := fun i h1 h2 => by
  rw [gpT1 (by omega), gpT2 (by omega)]
  exact h i h1 h2
theorem FB.put (h : FB w0 w) {c k : Nat} (hc : c < 7 ∨ 19 < c) (v : Int32) : FB w0 (gI w c k v) := fun i h1 h2 => by
  have e : (gI w c k v).1 i = w.1 i := funext fun q => if_neg (fun z => by omega)
  rw [e]
  exact h i h1 h2
theorem gfP {i : Nat} (h : i < 20) : gfind e_shPR_shP_20 i = none := by
  unfold e_shPR_shP_20
  simp only [gfind]
  rw [if_neg (by omega), if_neg (by omega), if_neg (by omega), if_neg (by omega), if_neg (by omega), if_neg (by omega), if_neg (by omega), if_neg (by omega)]
  rfl
theorem FB.pl (h : FB w0 w) (u : GW) : FB w0 (gput w e_shPR_shP_20 u) := fun i h1 h2 => by
  have e1 : (gput w e_shPR_shP_20 u).1 i = w.1 i := by
    funext k
    show (match gfind e_shPR_shP_20 i with | some j => u.1 j k | none => w.1 i k) = w.1 i k
    rw [gfP (by omega)]
  have e2 : (gput w e_shPR_shP_20 u).2 i = w.2 i := by
    funext k
    show (match gfind e_shPR_shP_20 i with | some j => u.2 j k | none => w.2 i k) = w.2 i k
    rw [gfP (by omega)]
  rw [e1, e2]
  exact h i h1 h2
theorem kb_some {r : Int32} {W : GW} (h : FB w W) : KB w (some (r, W)) := fun q e => by
  cases e
  exact h
theorem kb_none : KB w none := fun q e => by cases e
theorem kb_bind {α : Type} {o : Option α} {f : α → Option (Int32 × GW)} (h : ∀ a, KB w (f a)) : KB w (o.bind f) := by
  cases o with
  | none => exact kb_none
  | some a => exact h a
theorem kb_bindK {o : Option (Int32 × GW)} {f : Int32 × GW → Option (Int32 × GW)} (ho : KB w o) (h : ∀ q, FB w q.2 → KB w (f q)) : KB w (o.bind f) := by
  cases o with
  | none => exact kb_none
  | some a => exact h a (ho a rfl)
theorem kb_ite {c : Prop} [Decidable c] {a b : Option (Int32 × GW)} (h1 : KB w a) (h2 : KB w b) : KB w (if c then a else b) := by
  by_cases e : c
  · rw [if_pos e]; exact h1
  · rw [if_neg e]; exact h2
theorem kb_put {a0 : Nat} (ha : a0 < 7 ∨ 19 < a0) (x y : Int32) (h : FB w0 w) : KB w0 (F_X6_put a0 x y w) := by
  unfold F_X6_put
  exact kb_ite (kb_some h) (kb_ite (kb_some h) (kb_ite (kb_some (h.put ha _)) kb_none))
theorem kb_much (x y z : Int32) (h : FB w0 w) : KB w0 (F_X6_readMuch x y z w) := by
  unfold F_X6_readMuch
  exact kb_bind fun q1 => kb_ite (kb_some (h.txt _)) (kb_bind fun q3 => kb_bindK (kb_put (by omega) _ _ (h.txt _)) fun q4 h4 => kb_ite (kb_some h4) (kb_some h4))
theorem kb_name {a1 : Nat} (ha : a1 < 7 ∨ 19 < a1) (x : Int32) (h : FB w0 w) : KB w0 (F_X6_readName a1 x w) := by
  unfold F_X6_readName
  exact kb_bind fun q1 => kb_ite (kb_some (h.txt _)) (kb_bind fun q3 => kb_ite (kb_bind fun q7 => kb_ite (kb_some ((h.txt _).txt _)) kb_none) (kb_bindK (kb_put ha _ _ (h.txt _)) fun q5 h5 => kb_ite (kb_some h5) kb_none))
theorem kb_74 (x y : Int32) (h : FB w0 w) : KB w0 (f_X6_readTest_74 x y w) := by
  unfold f_X6_readTest_74
  exact kb_bind fun q11 => kb_ite (kb_some (h.txt _)) (kb_bind fun q13 => kb_bindK (kb_put (by omega) _ _ (h.txt _)) fun q14 h14 => kb_bind fun q15 => kb_bindK (kb_much _ _ _ h14) fun q16 h16 => kb_ite (kb_some h16) kb_none)
theorem kb_32 (x y : Int32) (h : FB w0 w) : KB w0 (f_X6_readTest_32 x y w) := by
  unfold f_X6_readTest_32
  exact kb_bindK (kb_put (by omega) _ _ h) fun q6 h6 => kb_bind fun q7 => kb_ite (kb_74 _ _ (h6.txt _)) (kb_bindK (kb_name (by omega) _ (h6.txt _)) fun q9 h9 => kb_ite (kb_some h9) (kb_74 _ _ h9))
theorem kb_test (x : Int32) (h : FB w0 w) : KB w0 (F_X6_readTest x w) := by
  unfold F_X6_readTest
  exact kb_ite (kb_32 _ _ h) (kb_ite (kb_32 _ _ h) (kb_ite (kb_32 _ _ h) (kb_bind fun q4 => kb_ite (kb_some (h.txt _)) kb_none)))
theorem kb_rest (x y : Int32) (h : FB w0 w) : KB w0 (F_X6_readRest x y w) := by
  unfold F_X6_readRest
  refine kb_ite (kb_bindK (kb_much _ _ _ h) fun q h2 => kb_ite (kb_some h2) kb_none) (kb_ite ?_ (kb_ite ?_ (kb_ite ?_ (kb_ite ?_ (kb_ite ?_ (kb_ite (kb_some h) (kb_ite (kb_some h) (kb_ite ?_ (kb_ite (kb_some h) (kb_ite ?_ (kb_some h)))))))))))
  · exact kb_bindK (kb_name (by omega) _ h) fun q5 h5 => kb_ite (kb_some h5) (kb_bindK (kb_much _ _ _ h5) fun q7 h7 => kb_ite (kb_some h7) (kb_some h7))
  · exact kb_bindK (kb_name (by omega) _ h) fun q5 h5 => kb_ite (kb_some h5) (kb_bindK (kb_name (by omega) _ h5) fun q7 h7 => kb_ite (kb_some h7) (kb_some h7))
  · exact kb_bindK (kb_name (by omega) _ h) fun q5 h5 => kb_ite (kb_some h5) (kb_bindK (kb_much _ _ _ h5) fun q7 h7 => kb_ite (kb_some h7) (kb_some h7))
  · exact kb_bindK (kb_name (by omega) _ h) fun q5 h5 => kb_ite (kb_some h5) kb_none
  · exact kb_bindK (kb_name (by omega) _ h) fun q5 h5 => kb_ite (kb_some h5) kb_none
  · exact kb_bindK (kb_test _ h) fun q5 h5 => kb_ite (kb_some h5) kb_none
  · exact kb_bindK (kb_much _ _ _ h) fun q5 h5 => kb_ite (kb_some h5) kb_none
theorem kb_130 (x y : Int32) (h : FB w0 w) : KB w0 (f_X6_readStep_130 x y w) := by
  unfold f_X6_readStep_130
  exact kb_bind fun q18 => kb_bind fun q19 => kb_ite (kb_some (h.txt _)) (kb_bindK (kb_rest _ _ (h.txt _)) fun q21 h21 => kb_ite (kb_some h21) (kb_bind fun q23 => kb_ite (kb_some (h21.txt _)) (kb_some (h21.txt _))))
theorem kb_90 (x y : Int32) (h : FB w0 w) : KB w0 (f_X6_readStep_90 x y w) := by
  unfold f_X6_readStep_90
  exact kb_bind fun q14 => kb_ite (kb_130 _ _ (h.pl _)) (kb_ite (kb_130 _ _ (h.pl _)) (kb_ite (kb_130 _ _ (((h.pl _).put (by omega) _).put (by omega) _)) kb_none))
theorem kb_38 (h : FB w0 w) : KB w0 (f_X6_readStep_38 w) := by
  unfold f_X6_readStep_38
  exact kb_bind fun q12 => kb_ite (kb_some (h.txt _)) kb_none
theorem kb_25 (x y : Int32) (h : FB w0 w) : KB w0 (f_X6_readStep_25 x y w) := by
  unfold f_X6_readStep_25
  exact kb_ite (kb_38 h) (kb_ite (kb_38 h) (kb_ite (kb_ite (kb_90 _ _ h) (kb_ite (kb_90 _ _ h) (kb_bind fun q8 => kb_ite (kb_some (h.txt _)) kb_none))) (kb_bind fun q10 => kb_ite (kb_some (h.txt _)) kb_none)))
theorem kb_step (h : FB w0 w) : KB w0 (F_X6_readStep w) := by
  unfold F_X6_readStep f_X6_readStep_20
  exact kb_ite (kb_25 _ _ h) (kb_ite (kb_25 _ _ h) (kb_25 _ _ h))
theorem kb_end (h : FB w0 w) : KB w0 (F_X6_readEnd w) := by
  unfold F_X6_readEnd f_X6_readEnd_15
  refine kb_ite ?_ (kb_ite (kb_ite ?_ kb_none) ?_)
  · exact kb_bind fun q8 => kb_ite (kb_some (h.txt _)) kb_none
  · exact kb_bind fun q4 => kb_bind fun q5 => kb_bind fun q6 => kb_ite (kb_some ((((h.put (by omega) _).pl _).txt _).txt _)) kb_none
  · exact kb_bind fun q8 => kb_ite (kb_some (h.txt _)) kb_none
theorem kb_67 (h : FB w0 w) : KB w0 (f_X6_readSteps_67 w) := by
  have h83 : ∀ s : Int32, KB w0 (f_X6_readSteps_83 s w) := fun s => by
    unfold f_X6_readSteps_83
    exact kb_ite (kb_ite (kb_some (h.put (by omega) _)) (kb_bind fun q11 => kb_ite (kb_some ((h.put (by omega) _).txt _)) (kb_some ((h.put (by omega) _).txt _)))) kb_none
  unfold f_X6_readSteps_67
  exact kb_ite (h83 _) (h83 _)
theorem kb_14 : ∀ (n : Nat) (x : Int32) (w : GW), FB w0 w → KB w0 (f_X6_readSteps_14 n x w)
  | 0, _, _, _ => kb_none
  | n + 1, x, w, h => by
    have h54 : ∀ (a b : Int32) (w : GW), FB w0 w → KB w0 (f_X6_readSteps_54 (f_X6_readSteps_14 n) a b w) := fun a b w h => by
      unfold f_X6_readSteps_54
      exact kb_ite (kb_some h) (kb_14 n _ _ h)
    show KB w0 (b_X6_readSteps_14 (f_X6_readSteps_14 n) x w)
    unfold b_X6_readSteps_14
    exact kb_ite (kb_67 h) (kb_ite (kb_67 h) (kb_ite (kb_bindK (kb_end h) fun q h2 => h54 _ _ _ h2) (kb_bindK (kb_step h) fun q h2 => h54 _ _ _ h2)))
end
