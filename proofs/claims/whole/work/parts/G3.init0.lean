/-! WHAT HOLDS AT THE START: a city with nobody in it -/
def mI0 : mm := swM mIc
def C00 : cty := ((0, 0, 0), (5, 0), (fun _ _ => 0), plainV)
def A00 : sty := (C00, (0, 0, 0, 0), [], (fun _ => none), [], [], [])
theorem z0_p : mI0.2.2 12 0 6 = 0 ∧ mI0.2.2 12 0 7 = 1 := by decide +kernel
theorem z0_c : mI0.1 5 7 0 = 0 ∧ mI0.1 5 7 1 = 0 ∧ mI0.1 5 7 2 = 0 ∧ mI0.1 5 7 3 = 0 ∧ mI0.1 12 0 14 = 0 ∧ mI0.1 12 0 13 = 0 ∧ mI0.1 12 0 17 = 0 ∧ mI0.1 9 0 0 = 0 ∧ mI0.1 9 0 3 = 0 ∧ mI0.1 9 0 4 = 0 ∧ mI0.1 9 0 5 = 0 ∧ mI0.1 7 0 2 = 0 ∧ mI0.1 11 0 6 = 0 ∧ mI0.1 11 0 7 = 0 := by decide +kernel
theorem z0_v : mI0.1 1 0 0 = 0 ∧ mI0.1 1 0 5 = 0 ∧ mI0.1 1 0 13 = 0 ∧ mI0.1 3 0 0 = 5 ∧ mI0.1 1 0 12 = 0 ∧ mI0.1 3 0 4 = 0 ∧ mI0.1 3 0 2 = 0 := by decide +kernel
theorem z0_m : mI0.1 64 0 0 = 0 ∧ mI0.1 64 0 1 = 0 ∧ mI0.1 64 0 2 = 0 ∧ mI0.1 64 0 3 = 5 ∧ mI0.1 64 0 4 = 0 ∧ mI0.1 64 0 5 = 0 ∧ mI0.1 79 0 0 = 0 ∧ mI0.1 80 0 0 = 0 ∧ mI0.1 105 0 0 = 0 ∧ mI0.1 100 0 0 = 0 ∧ mI0.1 100 0 1 = 0 ∧ mI0.1 100 0 2 = 0 ∧ mI0.1 100 0 3 = 0 ∧ mI0.1 13 0 54 = 0 ∧ mI0.1 94 0 0 = 0 ∧ mI0.1 97 0 0 = 0 ∧ mI0.1 13 0 1 = 0 := by decide +kernel
theorem z0_k : ∀ k, k < 4 → mI0.1 104 0 k = 0 := by decide +kernel
theorem z0_f : ∀ x, x < 10 → mI0.1 48 0 x = 0 := by decide +kernel
theorem z0_j : ∀ j, j < 1024 → mI0.1 56 0 j = 0 := by
  have h : (List.range 1024).all (fun j => decide (mI0.1 56 0 j = 0)) = true := by decide +kernel
  exact fun j hj => of_decide_eq_true (List.all_eq_true.mp h j (List.mem_range.mpr hj))
theorem z0_w : ∀ i, i < 29 → mI0.2.1 41 0 i = lN (pv 32 (KW.getD i [])) := by decide +kernel
theorem WF00 : WF C00 := by
  refine ⟨⟨by decide, by decide, by decide, by decide, by decide⟩, fun p hp => absurd hp (Nat.not_lt_zero _), fun x hx => absurd hx (Nat.not_lt_zero _), fun x _ => ?_, fun s hs => absurd hs (Nat.not_lt_zero _)⟩
  show bt 0 x = true ↔ _
  rw [b_0]
  exact ⟨fun q => (by cases q), fun q => absurd q.1 (Nat.not_lt_zero _)⟩
theorem AOK00 : AOK A00 0 := by
  have hb : ∀ {P : Prop} (x : Nat), bt 0 x = true → P := fun x q => by rw [b_0] at q; cases q
  have hL : LfOk C00 [] := ⟨Nat.zero_le _, fun e he => (by cases he)⟩
  have hH : HdOk C00 [] := ⟨Nat.zero_le _, fun e he => (by cases he)⟩
  exact ⟨WF00, ⟨⟨⟨0, Nat.zero_le _, rfl⟩, fun x _ q => hb x q, fun x _ q => hb x q, fun x _ q => hb x q⟩, HallU_z⟩, ⟨Nat.zero_le _, fun u hu => (by cases hu)⟩, fun k v hv => (by cases hv), hL, hH, Nat.zero_le _, fun x hx => (by cases hx)⟩
theorem RC00 : RC A00 0 mI0 := by
  obtain ⟨c1, c2, c3, c4, c5, c6, c7, c8, c9, c10, c11, c12, c13, c14⟩ := z0_c
  obtain ⟨v1, v2, v3, v4, v5, v6, v7⟩ := z0_v
  have hb : ∀ x, bt 0 x = false := b_0
  refine ⟨0, 1, Or.inl ⟨rfl, rfl⟩, z0_p.1, z0_p.2, ⟨⟨c1, c2, c3, c4⟩, ⟨c5, 0, by decide, c6, fun i u hu => (by cases hu)⟩, fun k _ => ⟨by rw [c7]; exact hb k, fun v hv => (by cases hv)⟩, ⟨c8, fun i e he => (by cases he)⟩, ⟨c9, fun s _ => ?_, fun s _ => ?_⟩, ⟨c12, fun i x hx => (by cases hx)⟩⟩, ⟨⟨⟨⟨v1, v2, v3, v4, v5⟩, fun i hi => absurd hi (Nat.not_lt_zero _), fun i hi => absurd hi (Nat.not_lt_zero _), fun i hi => absurd hi (Nat.not_lt_zero _), [], false, ⟨v6, Nat.zero_le _, fun i v hv => (by cases hv)⟩, v7, rfl⟩, fun x a hx => absurd hx (Nat.not_lt_zero _)⟩, fun x hx => ?_⟩, ⟨0, Nat.le_refl _, c13, fun j hj => ⟨0, Nat.le_refl _, z0_j j hj⟩⟩, Or.inl c14⟩
  · rw [c10, hb]; exact ⟨fun q => (by cases q), fun q => (by cases q)⟩
  · rw [c11, hb]; exact ⟨fun q => (by cases q), fun q => (by cases q)⟩
  · unfold lfM; rw [z0_f x hx]; decide
theorem RM00 : RM A00 mI0 := by
  obtain ⟨m1, m2, m3, m4, m5, m6, m7, m8, m9, m10, m11, m12, m13, m14, m15, m16, m17⟩ := z0_m
  refine ⟨⟨⟨⟨m1, m2, m3, m4⟩, fun i hi => absurd hi (Nat.not_lt_zero _), fun i hi => absurd hi (Nat.not_lt_zero _), fun i hi => absurd hi (Nat.not_lt_zero _), m7, [], m8, Nat.zero_le _, fun i c hc => (by cases hc), fun _ => rfl, fun q => absurd rfl q⟩, m9, ⟨m10, m11, m12, m13⟩⟩, ⟨m5, m6⟩, ⟨m14, fun i u hu => (by cases hu)⟩, fun k hk => ⟨z0_k k hk, fun v hv => (by cases hv)⟩, ⟨m15, fun i e he => (by cases he)⟩, ⟨m16, fun i e he => (by cases he)⟩, ⟨m17, fun i x hx => (by cases hx)⟩⟩
theorem INV00 : INV A00 ([], []) 0 mI0 :=
  ⟨AOK00, ⟨rfl, rfl⟩, ⟨RC00, ⟨fun i w hi => (by cases hi), fun w hw => (by cases hw)⟩, ⟨fun i w hi => (by cases hi), fun w hw => (by cases hw)⟩, z0_w⟩, RM00, ⟨fun i w hi => (by cases hi), fun w hw => (by cases hw)⟩, ⟨fun i w hi => (by cases hi), fun w hw => (by cases hw)⟩⟩
