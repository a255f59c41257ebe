def gF2 (ad : Nat → Nat) (w : GW) (i : Nat) : List Nat → Nat → List Value
  | [], _ => []
  | q :: t, k => gfld ad w i k q :: gF2 ad w i t (k + 1)
theorem gF2_eq (ad : Nat → Nat) (w : GW) (i : Nat) : ∀ (l : List Nat) (k : Nat), l.mapIdx (fun j q => gfld ad w i (j + k) q) = gF2 ad w i l k
  | [], _ => rfl
  | q :: t, k => by
    rw [List.mapIdx_cons, gF2, ← gF2_eq ad w i t (k + 1), Nat.zero_add]
    congr 1
    congr 1
    funext j q
    rw [Nat.add_right_comm, Nat.add_assoc]
def gC2 (cA : Nat → ClassId) (ad : Nat → Nat) (w : GW) (i : Nat) (s : Nat × List Nat) : va_E :=
  match s.1 with
  | 0 => .inl (cA 0, s.2.headD 0, .inl (w.1 i))
  | 1 => .inl (cA 1, s.2.headD 0, .inl (w.1 i))
  | 2 => .inl (cA 2, s.2.headD 0, .inl (w.1 i))
  | 3 => .inl (cA 3, s.2.headD 0, .inr (.inl (w.2 i)))
  | 4 => .inl (cA 4, s.2.length, .inr (.inr (.inr (.inr (fun k => (s.2[k]?).map ad)))))
  | 5 => .inl (cA 5, s.2.length, .inr (.inr (.inr (.inr (fun k => (s.2[k]?).map ad)))))
  | 6 => .inl (cA 6, s.2.length, .inr (.inr (.inr (.inr (fun k => (s.2[k]?).map ad)))))
  | 7 => .inl (cA 7, s.2.length, .inr (.inr (.inr (.inr (fun k => (s.2[k]?).map ad)))))
  | 8 => .inl (cA 8, s.2.length, .inr (.inr (.inr (.inr (fun k => (s.2[k]?).map ad)))))
  | 9 => .inl (cA 9, s.2.length, .inr (.inr (.inr (.inr (fun k => (s.2[k]?).map ad)))))
  | n + 10 => .inr (n, gF2 ad w i s.2 0)
theorem gC2_eq (cA : Nat → ClassId) (ad : Nat → Nat) (w : GW) (i : Nat) (s : Nat × List Nat) : gcell cA ad w i s = gC2 cA ad w i s := by
  obtain ⟨t, l⟩ := s
  match t with
  | 0 => rfl
  | 1 => rfl
  | 2 => rfl
  | 3 => rfl
  | 4 => rfl
  | 5 => rfl
  | 6 => rfl
  | 7 => rfl
  | 8 => rfl
  | 9 => rfl
  | n + 10 =>
    unfold gcell
    rw [if_neg (show ¬ n + 10 < 3 by omega), if_neg (show ¬ n + 10 = 3 by omega), if_neg (show ¬ n + 10 < 10 by omega)]
    show Sum.inr (n, l.mapIdx (fun k q => gfld ad w i k q)) = Sum.inr (n, gF2 ad w i l 0)
    rw [← gF2_eq]
    rfl
def gM2 (cA : Nat → ClassId) (ad : Nat → Nat) (w : GW) : GS → Nat → va_W
  | [], _ => []
  | s :: t, k => (ad k, gC2 cA ad w k s) :: gM2 cA ad w t (k + 1)
theorem gM2_eq (cA : Nat → ClassId) (ad : Nat → Nat) (w : GW) : ∀ (l : GS) (k : Nat), l.mapIdx (fun j s => (ad (j + k), gcell cA ad w (j + k) s)) = gM2 cA ad w l k
  | [], _ => rfl
  | s :: t, k => by
    rw [List.mapIdx_cons, gM2, ← gM2_eq cA ad w t (k + 1), Nat.zero_add, gC2_eq]
    congr 1
    congr 1
    funext j q
    rw [Nat.add_right_comm, Nat.add_assoc]
theorem gM_2 (cA : Nat → ClassId) (ad : Nat → Nat) (sh : GS) (w : GW) : gM cA ad sh w = gM2 cA ad w sh 0 := gM2_eq cA ad w sh 0
