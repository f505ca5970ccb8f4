/-! sums, and what is borne: flow against Hall's condition -/
def sm : Nat → (Nat → Int) → Int
  | 0, _ => 0
  | n + 1, f => sm n f + f n
theorem sm_c {n : Nat} {f g : Nat → Int} (h : ∀ i, i < n → f i = g i) : sm n f = sm n g := by
  induction n with
  | zero => rfl
  | succ n ih => simp only [sm]; rw [ih (fun i hi => h i (by omega)), h n (by omega)]
theorem sm_0 {n : Nat} : sm n (fun _ => 0) = 0 := by
  induction n with
  | zero => rfl
  | succ n ih => simp only [sm]; rw [ih]; rfl
theorem sm_add {n : Nat} {f g : Nat → Int} : sm n (fun i => f i + g i) = sm n f + sm n g := by
  induction n with
  | zero => rfl
  | succ n ih => simp only [sm]; rw [ih]; omega
theorem sm_sub {n : Nat} {f g : Nat → Int} : sm n (fun i => f i - g i) = sm n f - sm n g := by
  induction n with
  | zero => rfl
  | succ n ih => simp only [sm]; rw [ih]; omega
theorem sm_le {n : Nat} {f g : Nat → Int} (h : ∀ i, i < n → f i ≤ g i) : sm n f ≤ sm n g := by
  induction n with
  | zero => exact Int.le_refl _
  | succ n ih => simp only [sm]; have h1 := ih (fun i hi => h i (by omega)); have h2 := h n (by omega); omega
theorem sm_nn {n : Nat} {f : Nat → Int} (h : ∀ i, i < n → 0 ≤ f i) : 0 ≤ sm n f := by
  have := sm_le (f := fun _ => 0) (g := f) h
  rw [sm_0] at this; exact this
theorem sm_z {n : Nat} {f : Nat → Int} (h : ∀ i, i < n → 0 ≤ f i) (hs : sm n f ≤ 0) : ∀ i, i < n → f i = 0 := by
  induction n with
  | zero => intro i hi; omega
  | succ n ih =>
    simp only [sm] at hs
    have h1 := sm_nn (fun i hi => h i (Nat.lt_succ_of_lt hi))
    have h2 := h n (by omega)
    intro i hi
    by_cases e : i = n
    · subst e; omega
    · exact ih (fun i hi => h i (by omega)) (by omega) i (by omega)
theorem sm_x {n m : Nat} {f : Nat → Nat → Int} : sm n (fun i => sm m (f i)) = sm m (fun j => sm n (fun i => f i j)) := by
  induction n with
  | zero => simp only [sm]; exact sm_0.symm
  | succ n ih => simp only [sm]; rw [ih, ← sm_add]
theorem sm_set {n k : Nat} {f : Nat → Int} {v : Int} (hk : k < n) : sm n (fun i => if i = k then v else f i) = sm n f - f k + v := by
  induction n with
  | zero => omega
  | succ n ih =>
    simp only [sm]
    by_cases e : k = n
    · subst e
      rw [if_pos rfl, sm_c (g := f) (fun i hi => by rw [if_neg (by omega)])]; omega
    · rw [ih (by omega), if_neg (by omega)]; omega
theorem sm_one {n k : Nat} {f : Nat → Int} (hk : k < n) (h : ∀ i, i < n → 0 ≤ f i) : f k ≤ sm n f := by
  have h1 := sm_set (f := f) (v := 0) hk
  have h2 : 0 ≤ sm n (fun i => if i = k then 0 else f i) := sm_nn (fun i hi => by
    by_cases e : i = k
    · rw [if_pos e]; exact Int.le_refl _
    · rw [if_neg e]; exact h i hi)
  omega
theorem sm_ext {n m : Nat} {f : Nat → Int} (h : n ≤ m) (h0 : ∀ i, n ≤ i → i < m → f i = 0) : sm m f = sm n f := by
  induction m with
  | zero => have : n = 0 := by omega
            subst this; rfl
  | succ m ih =>
    by_cases e : n = m + 1
    · subst e; rfl
    · simp only [sm]; rw [ih (by omega) (fun i h1 h2 => h0 i h1 (by omega)), h0 m (by omega) (by omega)]; omega
theorem sm_ite {n : Nat} {p : Bool} {f : Nat → Int} : (if p then sm n f else 0) = sm n (fun i => if p then f i else 0) := by
  cases p
  · simp only [Bool.false_eq_true, if_false]; exact sm_0.symm
  · simp only [if_true]
/-- the oaths on which some of X rest -/
def nb (R : Nat → Nat → Bool) (X : Nat → Bool) (o : Nat) : Bool := (List.range 11).any (fun s => X s && R s o)
theorem nb_iff {R : Nat → Nat → Bool} {X : Nat → Bool} {o : Nat} : nb R X o = true ↔ ∃ s, s < 11 ∧ X s = true ∧ R s o = true := by
  simp [nb, List.any_eq_true]
theorem nb_false {R : Nat → Nat → Bool} {X : Nat → Bool} {o : Nat} (h : nb R X o = false) {s : Nat} (hs : s < 11) (hX : X s = true) : R s o = false := by
  cases hr : R s o
  · rfl
  · rw [nb_iff.mpr ⟨s, hs, hX, hr⟩] at h; cases h
def wX (w : Nat → Int) (X : Nat → Bool) : Int := sm 11 (fun s => if X s then w s else 0)
def cX (c : Nat → Int) (O : Nat → Bool) : Int := sm 10 (fun o => if O o then c o else 0)
def Hall (w : Nat → Int) (R : Nat → Nat → Bool) (c : Nat → Int) (U : Nat → Bool) : Prop := ∀ X : Nat → Bool, (∀ s, X s = true → U s = true) → wX w X ≤ cX c (nb R X)
/-- what is laid: ld on each oath of each stone, lf what each oath can still bear -/
def Flow (w : Nat → Int) (R : Nat → Nat → Bool) (c : Nat → Int) (L : Nat → Bool) (ld : Nat → Nat → Int) (lf : Nat → Int) : Prop :=
  (∀ t o, t < 11 → o < 10 → 0 ≤ ld t o ∧ (0 < ld t o → L t = true ∧ R t o = true)) ∧ (∀ o, o < 10 → 0 ≤ lf o ∧ lf o + sm 11 (fun t => ld t o) = c o) ∧ ∀ t, t < 11 → L t = true → sm 10 (ld t) ≤ w t
def Full (w : Nat → Int) (L : Nat → Bool) (ld : Nat → Nat → Int) : Prop := ∀ t, t < 11 → L t = true → sm 10 (ld t) = w t
def Tight (R : Nat → Nat → Bool) (L : Nat → Bool) (ld : Nat → Nat → Int) (lf : Nat → Int) (T : Nat → Bool) : Prop :=
  (∀ s, T s = true → L s = true) ∧ ∀ o, o < 10 → nb R T o = true → lf o = 0 ∧ ∀ t, t < 11 → 0 < ld t o → T t = true
section HALL
variable {w : Nat → Int} {R : Nat → Nat → Bool} {c : Nat → Int} {L U T T' : Nat → Bool} {ld ld' : Nat → Nat → Int} {lf lf' : Nat → Int}
/-- what the stones of X lay, oath by oath -/
theorem lay_x {X : Nat → Bool} : sm 11 (fun t => if X t then sm 10 (ld t) else 0) = sm 10 (fun o => sm 11 (fun t => if X t then ld t o else 0)) := by
  rw [← sm_x]
  exact sm_c (fun t _ => sm_ite)
theorem flow_le (F : Flow w R c L ld lf) {X : Nat → Bool} : sm 11 (fun t => if X t then sm 10 (ld t) else 0) ≤ cX c (nb R X) := by
  rw [lay_x]
  refine sm_le (fun o ho => ?_)
  cases hn : nb R X o
  · simp only [Bool.false_eq_true, if_false]
    refine Int.le_of_eq ((sm_c (fun t ht => ?_)).trans sm_0)
    cases hx : X t
    · simp
    · have h1 := F.1 t o ht ho
      have h2 := nb_false hn ht hx
      simp only [if_true]
      rcases Int.lt_or_le 0 (ld t o) with h | h
      · rw [(h1.2 h).2] at h2; cases h2
      · omega
  · simp only [if_true]
    have h1 := F.2.1 o ho
    have h2 : sm 11 (fun t => if X t then ld t o else 0) ≤ sm 11 (fun t => ld t o) := sm_le (fun t ht => by
      have := (F.1 t o ht ho).1
      cases X t
      · simpa using this
      · simp)
    omega
theorem flow_hall (F : Flow w R c L ld lf) (H : Full w L ld) : Hall w R c L := by
  intro X hX
  refine Int.le_trans (Int.le_of_eq (sm_c (fun t ht => ?_))) (flow_le F)
  cases hx : X t
  · rfl
  · simp only [if_true]; exact (H t ht (hX t hx)).symm
/-- a tight set bears just what its oaths can -/
theorem tight_sum (F : Flow w R c L ld lf) (H : Tight R L ld lf T) : sm 11 (fun t => if T t then sm 10 (ld t) else 0) = cX c (nb R T) := by
  rw [lay_x]
  refine sm_c (fun o ho => ?_)
  cases hn : nb R T o
  · simp only [Bool.false_eq_true, if_false]
    refine (sm_c (fun t ht => ?_)).trans sm_0
    cases hx : T t
    · simp
    · have h1 := F.1 t o ht ho
      have h2 := nb_false hn ht hx
      simp only [if_true]
      rcases Int.lt_or_le 0 (ld t o) with h | h
      · rw [(h1.2 h).2] at h2; cases h2
      · omega
  · simp only [if_true]
    have h1 := F.2.1 o ho
    have h2 := H.2 o ho hn
    rw [← h1.2, h2.1, Int.zero_add]
    refine sm_c (fun t ht => ?_)
    cases hx : T t
    · have h3 := F.1 t o ht ho
      simp only [Bool.false_eq_true, if_false]
      rcases Int.lt_or_le 0 (ld t o) with h | h
      · rw [h2.2 t ht h] at hx; cases hx
      · omega
    · simp
theorem tight_not (F : Flow w R c L ld lf) (H : Tight R L ld lf T) (hU : ∀ s, T s = true → U s = true) {s : Nat} (hs : s < 11) (hT : T s = true) (hd : sm 10 (ld s) < w s) : ¬ Hall w R c U := by
  intro h
  have h1 := h T hU
  rw [← tight_sum F H] at h1
  have h2 : wX w T - sm 11 (fun t => if T t then sm 10 (ld t) else 0) = sm 11 (fun t => (if T t then w t else 0) - (if T t then sm 10 (ld t) else 0)) := sm_sub.symm
  have h3 := sm_one (f := fun t => (if T t then w t else 0) - (if T t then sm 10 (ld t) else 0)) hs (fun t ht => by
    cases hx : T t
    · simp
    · have := F.2.2 t ht (H.1 t hx); simp only [if_true]; omega)
  simp only [hT, if_true] at h3
  omega
/-- a tight set stays so, whatever is laid beside it -/
theorem tight_keep (F : Flow w R c L ld lf) (H : Tight R L ld lf T) {L' : Nat → Bool} (F' : Flow w R c L' ld' lf') (hL : ∀ s, L s = true → L' s = true) (hs : ∀ t, t < 11 → T t = true → sm 10 (ld' t) = sm 10 (ld t)) (hf : ∀ o, o < 10 → lf' o ≤ lf o) : Tight R L' ld' lf' T := by
  refine ⟨fun s h => hL s (H.1 s h), fun o ho hn => ?_⟩
  have h0 : ∀ o, o < 10 → nb R T o = true → lf' o = 0 := fun o ho hn => by
    have h1 := (H.2 o ho hn).1; have h2 := hf o ho; have h3 := (F'.2.1 o ho).1; omega
  refine ⟨h0 o ho hn, fun t ht hp => ?_⟩
  have e1 : sm 11 (fun t => if T t then sm 10 (ld' t) else 0) = cX c (nb R T) := by
    rw [← tight_sum F H]
    exact sm_c (fun t ht => by
      cases hx : T t
      · rfl
      · simp only [if_true]; exact hs t ht hx)
  rw [lay_x] at e1
  have e2 : sm 10 (fun o => (if nb R T o then c o else 0) - sm 11 (fun t => if T t then ld' t o else 0)) ≤ 0 := by
    rw [sm_sub]
    have : sm 10 (fun o => if nb R T o then c o else 0) = cX c (nb R T) := rfl
    omega
  have key : ∀ o, o < 10 → nb R T o = true → c o - sm 11 (fun t => if T t then ld' t o else 0) = sm 11 (fun t => if T t then 0 else ld' t o) := by
    intro o ho hn
    rw [← (F'.2.1 o ho).2, h0 o ho hn, Int.zero_add, ← sm_sub]
    exact sm_c (fun t _ => by cases T t <;> simp)
  have e3 := sm_z (fun o ho => by
    cases hn : nb R T o
    · simp only [Bool.false_eq_true, if_false]
      have : sm 11 (fun t => if T t then ld' t o else 0) = 0 := (sm_c (fun t ht => by
        cases hx : T t
        · simp
        · have h1 := F'.1 t o ht ho
          have h2 := nb_false hn ht hx
          simp only [if_true]
          rcases Int.lt_or_le 0 (ld' t o) with h | h
          · rw [(h1.2 h).2] at h2; cases h2
          · omega)).trans sm_0
      omega
    · simp only [if_true]
      rw [key o ho hn]
      exact sm_nn (fun t ht => by
        have := (F'.1 t o ht ho).1
        cases T t <;> simp [this])) e2 o ho
  simp only [hn, if_true] at e3
  rw [key o ho hn] at e3
  have e4 := sm_z (fun t ht => by
    have := (F'.1 t o ht ho).1
    cases T t <;> simp [this]) (Int.le_of_eq e3) t ht
  cases hx : T t
  · rw [hx] at e4; simp at e4; omega
  · rfl
theorem tight_or (H : Tight R L ld lf T) (H' : Tight R L ld lf T') : Tight R L ld lf (fun s => T s || T' s) := by
  refine ⟨fun s h => ?_, fun o ho hn => ?_⟩
  · rcases Bool.or_eq_true_iff.mp h with h | h
    · exact H.1 s h
    · exact H'.1 s h
  · obtain ⟨s, hs, hx, hr⟩ := nb_iff.mp hn
    rcases Bool.or_eq_true_iff.mp hx with h | h
    · have h1 := H.2 o ho (nb_iff.mpr ⟨s, hs, h, hr⟩)
      exact ⟨h1.1, fun t ht hp => Bool.or_eq_true_iff.mpr (Or.inl (h1.2 t ht hp))⟩
    · have h1 := H'.2 o ho (nb_iff.mpr ⟨s, hs, h, hr⟩)
      exact ⟨h1.1, fun t ht hp => Bool.or_eq_true_iff.mpr (Or.inr (h1.2 t ht hp))⟩
theorem tight_none : Tight R L ld lf (fun _ => false) := by
  refine ⟨fun s h => (by cases h), fun o ho hn => ?_⟩
  obtain ⟨s, hs, hx, hr⟩ := nb_iff.mp hn
  cases hx
/-- what can be borne at the most, as the least of what sets let pass -/
def Most (w : Nat → Int) (R : Nat → Nat → Bool) (c : Nat → Int) (U : Nat → Bool) (v : Int) : Prop :=
  (∀ X : Nat → Bool, (∀ s, X s = true → U s = true) → v ≤ wX w U - wX w X + cX c (nb R X)) ∧ ∃ X : Nat → Bool, (∀ s, X s = true → U s = true) ∧ v = wX w U - wX w X + cX c (nb R X)
theorem most_one {v v' : Int} (h : Most w R c U v) (h' : Most w R c U v') : v = v' := by
  obtain ⟨X, hX, e⟩ := h.2
  obtain ⟨X', hX', e'⟩ := h'.2
  have h1 := h.1 X' hX'
  have h2 := h'.1 X hX
  omega
theorem flow_most (F : Flow w R c L ld lf) (H : Tight R L ld lf T) (hd : ∀ t, t < 11 → L t = true → T t = false → sm 10 (ld t) = w t) : Most w R c L (sm 11 (fun t => if L t then sm 10 (ld t) else 0)) := by
  have key : ∀ X : Nat → Bool, (∀ s, X s = true → L s = true) → wX w L - wX w X + sm 11 (fun t => if X t then sm 10 (ld t) else 0) - sm 11 (fun t => if L t then sm 10 (ld t) else 0) = sm 11 (fun t => if L t && !X t then w t - sm 10 (ld t) else 0) := by
    intro X hX
    unfold wX
    rw [← sm_sub, ← sm_add, ← sm_sub]
    refine sm_c (fun t ht => ?_)
    cases hx : X t
    · cases L t <;> simp
    · rw [hX t hx]; simp
  refine ⟨fun X hX => ?_, T, H.1, ?_⟩
  · have h1 := flow_le F (X := X)
    have h2 := key X hX
    have h3 : 0 ≤ sm 11 (fun t => if L t && !X t then w t - sm 10 (ld t) else 0) := sm_nn (fun t ht => by
      cases hl : L t
      · simp
      · have := F.2.2 t ht hl
        cases X t <;> simp; omega)
    omega
  · have h1 := tight_sum F H
    have h2 := key T H.1
    have h3 : sm 11 (fun t => if L t && !T t then w t - sm 10 (ld t) else 0) = 0 := (sm_c (fun t ht => by
      cases hl : L t
      · simp
      · cases hx : T t
        · simp [hd t ht hl hx]
        · simp)).trans sm_0
    omega
theorem hall_sub (h : Hall w R c U) (hs : ∀ s, L s = true → U s = true) : Hall w R c L := fun X hX => h X (fun s q => hs s (hX s q))
end HALL
