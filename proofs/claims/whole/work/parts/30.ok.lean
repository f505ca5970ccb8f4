/-! PART III. ok o Q: the model answers, and its answer has Q -/
def ok {α : Type} (o : Option α) (Q : α → Prop) : Prop := ∃ a, o = some a ∧ Q a
section OK
variable {α β γ σ ρ : Type}
theorem ok_some {a : α} {Q : α → Prop} : ok (some a) Q ↔ Q a := ⟨fun ⟨_, h, q⟩ => by cases h; exact q, fun h => ⟨a, rfl, h⟩⟩
theorem ok_none {Q : α → Prop} : ok none Q ↔ False := ⟨fun ⟨_, h, _⟩ => (by cases h), False.elim⟩
theorem ok_mono {o : Option α} {Q Q' : α → Prop} (h : ok o Q) (k : ∀ a, Q a → Q' a) : ok o Q' := by
  obtain ⟨a, e, q⟩ := h; exact ⟨a, e, k a q⟩
theorem ok_nm {e : γ} {f : γ → Option β} {Q : β → Prop} : ok (nm e f) Q ↔ ok (f e) Q := Iff.rfl
theorem ok_gi {i : Int32} {n : Nat} {o : Option α} {Q : α → Prop} : ok (gi i n o) Q ↔ vp_in i n ∧ ok o Q := by
  unfold gi
  by_cases h : i < 0 ∨ n ≤ i.toNatClampNeg
  · rw [if_pos h]; exact ⟨fun ⟨_, e, _⟩ => (by cases e), fun q => absurd h q.1⟩
  · rw [if_neg h]; exact ⟨fun q => ⟨h, q⟩, fun q => q.2⟩
theorem ok_cl {o : Option (Int32 × mm)} {f : Int32 → mm → Option α} {Q : α → Prop} : ok (cl o f) Q ↔ ok o (fun p => ok (f p.1 p.2) Q) := by
  cases o with
  | none => exact ⟨fun ⟨_, e, _⟩ => (by cases e), fun ⟨_, e, _⟩ => by cases e⟩
  | some p => exact ⟨fun h => ⟨p, rfl, h⟩, fun ⟨a, e, q⟩ => by cases e; exact q⟩
theorem ok_cb {o : Option (Bool × mm)} {f : Bool → mm → Option α} {Q : α → Prop} : ok (cb o f) Q ↔ ok o (fun p => ok (f p.1 p.2) Q) := by
  cases o with
  | none => exact ⟨fun ⟨_, e, _⟩ => (by cases e), fun ⟨_, e, _⟩ => by cases e⟩
  | some p => exact ⟨fun h => ⟨p, rfl, h⟩, fun ⟨a, e, q⟩ => by cases e; exact q⟩
theorem ok_cv {o : Option mm} {f : mm → Option α} {Q : α → Prop} : ok (cv o f) Q ↔ ok o (fun p => ok (f p) Q) := by
  cases o with
  | none => exact ⟨fun ⟨_, e, _⟩ => (by cases e), fun ⟨_, e, _⟩ => by cases e⟩
  | some p => exact ⟨fun h => ⟨p, rfl, h⟩, fun ⟨a, e, q⟩ => by cases e; exact q⟩
theorem ok_bd {o : Option α} {f : α → Option β} {Q : β → Prop} : ok (bd o f) Q ↔ ok o (fun p => ok (f p) Q) := by
  cases o with
  | none => exact ⟨fun ⟨_, e, _⟩ => (by cases e), fun ⟨_, e, _⟩ => by cases e⟩
  | some p => exact ⟨fun h => ⟨p, rfl, h⟩, fun ⟨a, e, q⟩ => by cases e; exact q⟩
theorem ok_ite {c : Prop} [Decidable c] {a b : Option α} {Q : α → Prop} : ok (if c then a else b) Q ↔ (c → ok a Q) ∧ (¬ c → ok b Q) := by
  by_cases h : c
  · rw [if_pos h]; exact ⟨fun q => ⟨fun _ => q, fun n => absurd h n⟩, fun q => q.1 h⟩
  · rw [if_neg h]; exact ⟨fun q => ⟨fun n => absurd n h, fun _ => q⟩, fun q => q.2 h⟩
theorem ok_jn {f : Unit → Option β} {g : (Unit → Option β) → Option β} {Q : β → Prop} {P : Prop} (h : P → ok (f ()) Q) (k : ∀ j : Unit → Option β, (P → ok (j ()) Q) → ok (g j) Q) : ok (nm f g) Q := k f h
theorem ok_jm {f : γ → Option β} {g : (γ → Option β) → Option β} {Q : β → Prop} {P : γ → Prop} (h : ∀ z, P z → ok (f z) Q) (k : ∀ j : γ → Option β, (∀ z, P z → ok (j z) Q) → ok (g j) Q) : ok (nm f g) Q := k f h
theorem ok_and {o : Option α} {Q R : α → Prop} (h : ok o Q) (k : ok o R) : ok o (fun a => Q a ∧ R a) := by
  obtain ⟨a, e, q⟩ := h; obtain ⟨b, e2, r⟩ := k
  rw [e] at e2; cases e2; exact ⟨a, e, q, r⟩
theorem ok_comm {o : Option α} {o' : Option β} {Q : α → β → Prop} : ok o (fun a => ok o' (fun b => Q a b)) ↔ ok o' (fun b => ok o (fun a => Q a b)) :=
  ⟨fun ⟨a, e, b, e2, q⟩ => ⟨b, e2, a, e, q⟩, fun ⟨b, e2, a, e, q⟩ => ⟨a, e, b, e2, q⟩⟩
/-- a loop, by a measure that falls -/
theorem ok_lp {f : σ → Option (σ ⊕ ρ)} {Q : ρ → Prop} (I : Nat → σ → Prop) (h : ∀ n s, I n s → ok (f s) (Sum.elim (fun s' => ∃ k, k < n ∧ I k s') Q)) : ∀ (F n : Nat) (s : σ), n < F → I n s → ok (lp f F s) Q := by
  intro F
  induction F with
  | zero => intro n s hn; omega
  | succ F ih =>
    intro n s hn hI
    obtain ⟨t, e, q⟩ := h n s hI
    unfold lp
    rw [e]
    cases t with
    | inl s' => obtain ⟨k, hk, hI'⟩ := q; exact ih k s' (by omega) hI'
    | inr r => exact ⟨r, rfl, q⟩
/-- a loop that counts from i0 up to N at the most -/
theorem ok_for {f : σ → Option (σ ⊕ ρ)} {Q : ρ → Prop} {F : Nat} (N : Nat) (J : Nat → σ → Prop) {s0 : σ} (i0 : Nat) (hF : N < F) (hi : i0 ≤ N) (h0 : J i0 s0) (h : ∀ i s, i ≤ N → J i s → ok (f s) (Sum.elim (fun s' => i < N ∧ J (i + 1) s') Q)) : ok (lp f F s0) Q := by
  refine ok_lp (fun n s => ∃ i, i ≤ N ∧ n = N - i ∧ J i s) (fun n s hI => ?_) F (N - i0) s0 (by omega) ⟨i0, hi, rfl, h0⟩
  obtain ⟨i, hi, hn, hJ⟩ := hI
  refine ok_mono (h i s hi hJ) (fun t ht => ?_)
  cases t with
  | inl s' => exact ⟨N - (i + 1), by have := ht.1; omega, i + 1, by have := ht.1; omega, rfl, ht.2⟩
  | inr r => exact ht
/-- two runs side by side -/
theorem ok2_cb {o1 : Option (Bool × mm)} {o2 : Option (Bool × mm)} {f1 : Bool → mm → Option α} {f2 : Bool → mm → Option β} {Q : α → β → Prop} (R : Bool × mm → Bool × mm → Prop) (h : ok o1 fun p => ok o2 fun q => R p q) (k : ∀ p q, R p q → ok (f1 p.1 p.2) fun a => ok (f2 q.1 q.2) fun b => Q a b) : ok (cb o1 f1) fun a => ok (cb o2 f2) fun b => Q a b := by
  rw [ok_cb]
  refine ok_mono h (fun p hp => ?_)
  obtain ⟨q, e, r⟩ := hp
  refine ok_mono (k p q r) (fun a ha => ?_)
  rw [ok_cb]
  exact ⟨q, e, ha⟩
end OK
/-! reads behind writes -/
section RD
variable {M : mm} {k n i k' n' i' : Nat} {v : Int32} {w : Int64} {r : Nat}
theorem rII : (sI M k n i v).1 k' n' i' = if k' = k ∧ n' = n ∧ i' = i then v else M.1 k' n' i' := rfl
theorem rIL : (sI M k n i v).2.1 = M.2.1 := rfl
theorem rIR : (sI M k n i v).2.2 = M.2.2 := rfl
theorem rLI : (sL M k n i w).1 = M.1 := rfl
theorem rLL : (sL M k n i w).2.1 k' n' i' = if k' = k ∧ n' = n ∧ i' = i then w else M.2.1 k' n' i' := rfl
theorem rLR : (sL M k n i w).2.2 = M.2.2 := rfl
theorem rRI : (sR M k n i r).1 = M.1 := rfl
theorem rRL : (sR M k n i r).2.1 = M.2.1 := rfl
theorem rRR : (sR M k n i r).2.2 k' n' i' = if k' = k ∧ n' = n ∧ i' = i then r else M.2.2 k' n' i' := rfl
end RD
/-- nothing but the cells (kind, which) of P is another, no reference is -/
def fr (P : Nat → Nat → Prop) (M M' : mm) : Prop := M'.2.2 = M.2.2 ∧ ∀ k n, ¬ P k n → M'.1 k n = M.1 k n ∧ M'.2.1 k n = M.2.1 k n
section FR
variable {P Q : Nat → Nat → Prop} {M M' M'' : mm}
theorem fr_rf : fr P M M := ⟨rfl, fun _ _ _ => ⟨rfl, rfl⟩⟩
theorem fr_tr (h : fr P M M') (k : fr P M' M'') : fr P M M'' := ⟨k.1.trans h.1, fun a b q => ⟨((k.2 a b q).1).trans (h.2 a b q).1, ((k.2 a b q).2).trans (h.2 a b q).2⟩⟩
theorem fr_mono (h : fr P M M') (hq : ∀ k n, P k n → Q k n) : fr Q M M' := ⟨h.1, fun a b q => h.2 a b (fun p => q (hq a b p))⟩
theorem fr_sI {k n i : Nat} {v : Int32} (h : fr P M M') (hp : P k n) : fr P M (sI M' k n i v) := by
  refine ⟨h.1, fun a b q => ⟨?_, (h.2 a b q).2⟩⟩
  rw [← (h.2 a b q).1]
  funext j
  rw [rII, if_neg]
  rintro ⟨rfl, rfl, -⟩; exact q hp
theorem fr_sL {k n i : Nat} {v : Int64} (h : fr P M M') (hp : P k n) : fr P M (sL M' k n i v) := by
  refine ⟨h.1, fun a b q => ⟨(h.2 a b q).1, ?_⟩⟩
  rw [← (h.2 a b q).2]
  funext j
  rw [rLL, if_neg]
  rintro ⟨rfl, rfl, -⟩; exact q hp
theorem fr_I (h : fr P M M') {k n : Nat} (hk : ¬ P k n) (i : Nat) : M'.1 k n i = M.1 k n i := by rw [(h.2 k n hk).1]
theorem fr_L (h : fr P M M') {k n : Nat} (hk : ¬ P k n) (i : Nat) : M'.2.1 k n i = M.2.1 k n i := by rw [(h.2 k n hk).2]
end FR
