/-! the reference reads a pair -/
theorem cp_ins {p q : Nat → Bool} {n m : Nat} (hm : m < n) (h : ∀ i, i < n → i ≠ m → p i = q i) (hp : p m = false) (hq : q m = true) : (List.range n).countP q = (List.range n).countP p + 1 := by
  have := cp_del q m n
  rw [if_pos ⟨hm, hq⟩] at this
  rw [← this]
  congr 1
  refine List.countP_congr (fun i hi => ?_)
  have hi := List.mem_range.mp hi
  by_cases e : i = m
  · subst e; rw [hp]; simp
  · rw [h i hi e]; simp [e]
theorem sum_ins {f g : Nat → Nat} {m : Nat} : ∀ n, (∀ x, x < n → g x = f x + if x = m then 1 else 0) → ((List.range n).map g).sum = ((List.range n).map f).sum + if m < n then 1 else 0
  | 0, _ => by simp
  | n + 1, h => by
    rw [List.range_succ, List.map_append, List.map_append, List.sum_append, List.sum_append, sum_ins n (fun x hx => h x (by omega))]
    show _ + ([g n] : List Nat).sum = _ + ([f n] : List Nat).sum + _
    rw [List.sum_singleton, List.sum_singleton, h n (by omega)]
    by_cases e : n = m
    · subst e
      rw [if_neg (Nat.lt_irrefl _), if_pos rfl, if_pos (by omega)]; omega
    · rw [if_neg e]
      by_cases e2 : m < n
      · rw [if_pos e2, if_pos (by omega)]; omega
      · rw [if_neg e2, if_neg (by omega)]; omega
theorem leans_L {D : dft} {a b : Nat} {K : Nat → Int32} (hn : (dO D).length ≤ 10) (ha : a < (dO D).length) (hb : b < (dO D).length) (hne : b ≠ a) (h1 : dL D a = -1) (h2 : dL D b = -1) : leansD (dP D, dO D, (fun x => if x = b then nI a else if x = a then nI b else dL D x, K), D.2.2.2) = leansD D + 1 := by
  have m1 : (-1 : Int32).toInt = -1 := rfl
  have nn : ∀ x, x < 10 → decide (nI x < (-1 : Int32)) = false := fun x hx => decide_eq_false (by rw [i_lt, nI_toInt (by omega), m1]; omega)
  show (List.range (dO D).length).countP (fun x => decide (nI x < (if x = b then nI a else if x = a then nI b else dL D x))) = (List.range (dO D).length).countP (fun x => decide (nI x < dL D x)) + 1
  rcases Nat.lt_or_gt_of_ne hne with q | q
  · refine cp_ins (m := b) hb (fun i hi e => ?_) (by rw [h2]; exact nn b (by omega)) (by rw [if_pos rfl]; exact decide_eq_true ((nI_ltI (by omega) (by omega)).mpr q))
    rw [if_neg e]
    by_cases e2 : i = a
    · subst e2
      rw [if_pos rfl, h1, nn i (by omega)]
      exact (decide_eq_false (by rw [nI_ltI (by omega) (by omega)]; omega)).symm
    · rw [if_neg e2]
  · refine cp_ins (m := a) ha (fun i hi e => ?_) (by rw [h1]; exact nn a (by omega)) (by rw [if_neg (by omega), if_pos rfl]; exact decide_eq_true ((nI_ltI (by omega) (by omega)).mpr q))
    by_cases e2 : i = b
    · subst e2
      rw [if_pos rfl, h2, nn i (by omega)]
      exact (decide_eq_false (by rw [nI_ltI (by omega) (by omega)]; omega)).symm
    · rw [if_neg e2, if_neg e]
theorem clash_C {D : dft} {a b : Nat} {L : Nat → Int32} (hn : (dO D).length ≤ 10) (ha : a < (dO D).length) (hb : b < (dO D).length) (hne : b ≠ a) (h1 : bt (dK D a) b = false) (h2 : bt (dK D b) a = false) : clashD (dP D, dO D, (L, fun x => if x = b then dK D b ||| bitI (nI a) else if x = a then dK D a ||| bitI (nI b) else dK D x), D.2.2.2) = clashD D + 1 := by
  have bb : ∀ x y, x < 10 → y < 10 → bt (bitI (nI x)) y = decide (y = x) := fun x y hx hy => bitI_b (by omega) (by omega)
  have key : ∀ m o, m < o → m < (dO D).length → o < 10 → (∀ x y, x < (dO D).length → y < 10 → ¬ (x = m ∧ y = o) → ¬ (x = o ∧ y = m) → bt (if x = b then dK D b ||| bitI (nI a) else if x = a then dK D a ||| bitI (nI b) else dK D x) y = bt (dK D x) y) → bt (dK D m) o = false → bt (if m = b then dK D b ||| bitI (nI a) else if m = a then dK D a ||| bitI (nI b) else dK D m) o = true → clashD (dP D, dO D, (L, fun x => if x = b then dK D b ||| bitI (nI a) else if x = a then dK D a ||| bitI (nI b) else dK D x), D.2.2.2) = clashD D + 1 := fun m o hmo hm ho hs hp hq => by
    show ((List.range (dO D).length).map (fun x => (List.range 10).countP (fun y => decide (x ≤ y) && bt (if x = b then dK D b ||| bitI (nI a) else if x = a then dK D a ||| bitI (nI b) else dK D x) y))).sum = ((List.range (dO D).length).map (fun x => (List.range 10).countP (fun y => decide (x ≤ y) && bt (dK D x) y))).sum + 1
    rw [sum_ins (m := m) (dO D).length (f := fun x => (List.range 10).countP (fun y => decide (x ≤ y) && bt (dK D x) y)) (fun x hx => ?_), if_pos hm]
    by_cases e : x = m
    · rw [if_pos e]
      refine cp_ins (m := o) ho (fun y hy e2 => ?_) ?_ ?_
      · rw [hs x y hx hy (fun q => e2 q.2) (fun q => by omega)]
      · rw [e, hp, Bool.and_false]
      · rw [e, hq, Bool.and_true]; exact decide_eq_true (by omega)
    · rw [if_neg e, Nat.add_zero]
      refine List.countP_congr (fun y hy => ?_)
      have hy := List.mem_range.mp hy
      by_cases e2 : x = o ∧ y = m
      · have : decide (x ≤ y) = false := decide_eq_false (by omega)
        rw [this]; simp
      · rw [hs x y hx hy (fun q => e q.1) e2]
  have st : ∀ x y, x < (dO D).length → y < 10 → ¬ (x = a ∧ y = b) → ¬ (x = b ∧ y = a) → bt (if x = b then dK D b ||| bitI (nI a) else if x = a then dK D a ||| bitI (nI b) else dK D x) y = bt (dK D x) y := fun x y hx hy e1 e2 => by
    by_cases q : x = b
    · subst q
      rw [if_pos rfl, b_or, bb a y (by omega) hy, decide_eq_false (fun r => e2 ⟨rfl, r⟩), Bool.or_false]
    · rw [if_neg q]
      by_cases q2 : x = a
      · subst q2
        rw [if_pos rfl, b_or, bb b y (by omega) hy, decide_eq_false (fun r => e1 ⟨rfl, r⟩), Bool.or_false]
      · rw [if_neg q2]
  rcases Nat.lt_or_gt_of_ne hne with q | q
  · refine key b a q hb (by omega) (fun x y hx hy e1 e2 => st x y hx hy e2 e1) h2 ?_
    rw [if_pos rfl, b_or, bb a a (by omega) (by omega), decide_eq_true rfl, Bool.or_true]
  · refine key a b q ha (by omega) st h1 ?_
    rw [if_neg (by omega), if_pos rfl, b_or, bb b b (by omega) (by omega), decide_eq_true rfl, Bool.or_true]
theorem DMm_LK {D : dft} {M M' : mm} {L K : Nat → Int32} (h : DMm D M) (fr : fi (fun k _ i => (k = 64 ∧ (i = 10 ∨ i = 11)) ∨ ((k = 73 ∨ k = 74) ∧ 10 ≤ i)) M M') (c : ∀ i, i < (dO D).length → M'.1 73 0 (10 + i) = L i ∧ M'.1 74 0 (10 + i) = K i) (c10 : M'.1 64 0 10 = nI (leansD (dP D, dO D, (L, K), D.2.2.2))) (c11 : M'.1 64 0 11 = nI (clashD (dP D, dO D, (L, K), D.2.2.2))) : DMm (dP D, dO D, (L, K), D.2.2.2) M' := by
  obtain ⟨⟨h1, h2, h3⟩, ⟨h4, h5, h6⟩, ⟨h7, h8, h9⟩, h10, h11, h12, h13, h14⟩ := h
  have e : ∀ k i, ¬ (k = 64 ∧ (i = 10 ∨ i = 11)) → k ≠ 73 → k ≠ 74 → M'.1 k 0 i = M.1 k 0 i ∧ M'.2.1 k 0 i = M.2.1 k 0 i := fun k i a b c => fr.2 k 0 i (fun q => q.elim a (fun q => by omega))
  exact ⟨⟨by rw [(e 64 6 (by omega) (by omega) (by omega)).1]; exact h1, by rw [(e 64 7 (by omega) (by omega) (by omega)).1]; exact h2, by rw [(e 64 8 (by omega) (by omega) (by omega)).1]; exact h3⟩, ⟨by rw [(e 64 9 (by omega) (by omega) (by omega)).1]; exact h4, c10, c11⟩, ⟨⟨fun i w hi => by rw [(e 65 _ (by omega) (by omega) (by omega)).2]; exact h7.1 i w hi, h7.2⟩, ⟨fun i w hi => by rw [(e 66 _ (by omega) (by omega) (by omega)).2]; exact h8.1 i w hi, h8.2⟩, ⟨fun i w hi => by rw [(e 67 _ (by omega) (by omega) (by omega)).2]; exact h9.1 i w hi, h9.2⟩⟩, fun i v hi => by rw [(e 68 _ (by omega) (by omega) (by omega)).1, (e 69 _ (by omega) (by omega) (by omega)).1]; exact h10 i v hi, fun i v hi => ⟨by rw [(e 70 _ (by omega) (by omega) (by omega)).1]; exact (h11 i v hi).1, by rw [(e 71 _ (by omega) (by omega) (by omega)).1]; exact (h11 i v hi).2.1, by rw [(e 72 _ (by omega) (by omega) (by omega)).1]; exact (h11 i v hi).2.2.1, (c i (List.getElem?_eq_some_iff.mp hi).1).1, (c i (List.getElem?_eq_some_iff.mp hi).1).2⟩, fun i v hi => by rw [(e 75 _ (by omega) (by omega) (by omega)).1, (e 76 _ (by omega) (by omega) (by omega)).1, (e 77 _ (by omega) (by omega) (by omega)).1, (e 78 _ (by omega) (by omega) (by omega)).1]; exact h12 i v hi, by rw [(e 13 29 (by omega) (by omega) (by omega)).1]; exact h13, LwM_c h14 (fun k i hk => (e k i (by omega) (by omega) (by omega)).1)⟩
theorem DMm_lk {D : dft} {M : mm} (h : DMm D M) {i : Nat} (hi : i < (dO D).length) : M.1 73 0 (10 + i) = dL D i ∧ M.1 74 0 (10 + i) = dK D i := by
  have := h.2.2.2.2.1 i _ (List.getElem?_eq_getElem hi)
  exact ⟨this.2.2.2.1, this.2.2.2.2⟩
theorem dl_neg {D : dft} (hk : DOK D) {x : Nat} (hx : x < (dO D).length) : dL D x < 0 ↔ dL D x = -1 := by
  obtain ⟨⟨n1, n2, n3⟩, k2, k3, k4, -⟩ := hk
  rcases (k4 x hx).1 with e | ⟨y, hy, e⟩
  · rw [e]; exact ⟨fun _ => rfl, fun _ => by decide⟩
  · rw [e]
    refine ⟨fun q => absurd q (nI_pos (by omega)), fun q => ?_⟩
    have := nI_pos (n := y) (by omega)
    rw [q] at this; exact absurd (by decide) this
theorem DOK_L {D : dft} {a b : Nat} {K : Nat → Int32} (h : DOK D) (ha : a < (dO D).length) (hb : b < (dO D).length) (hK : K = dK D) : DOK (dP D, dO D, (fun x => if x = b then nI a else if x = a then nI b else dL D x, K), D.2.2.2) := by
  subst hK
  obtain ⟨n, k2, k3, k4, k5, k6, k7⟩ := h
  refine ⟨n, k2, k3, fun x hx => ⟨?_, (k4 x hx).2⟩, k5, k6, k7⟩
  show (if x = b then nI a else if x = a then nI b else dL D x) = -1 ∨ ∃ y, y < (dO D).length ∧ (if x = b then nI a else if x = a then nI b else dL D x) = nI y
  by_cases e1 : x = b
  · rw [if_pos e1]; exact Or.inr ⟨a, ha, rfl⟩
  · rw [if_neg e1]
    by_cases e2 : x = a
    · rw [if_pos e2]; exact Or.inr ⟨b, hb, rfl⟩
    · rw [if_neg e2]; exact (k4 x hx).1
theorem DOK_K {D : dft} {a b : Nat} (h : DOK D) (ha : a < (dO D).length) (hb : b < (dO D).length) : DOK (dP D, dO D, (dL D, fun x => if x = b then dK D b ||| bitI (nI a) else if x = a then dK D a ||| bitI (nI b) else dK D x), D.2.2.2) := by
  obtain ⟨n, k2, k3, k4, k5, k6, k7⟩ := h
  have hO := n.2.1
  refine ⟨n, k2, k3, fun x hx => ⟨(k4 x hx).1, fun y hy => ?_⟩, k5, k6, k7⟩
  show bt (if x = b then dK D b ||| bitI (nI a) else if x = a then dK D a ||| bitI (nI b) else dK D x) y = true → y < (dO D).length
  by_cases e1 : x = b
  · rw [if_pos e1, b_or, Bool.or_eq_true, bitI_b (by omega) hy, decide_eq_true_iff]
    exact fun r => r.elim (fun r => (k4 b hb).2 y hy r) (fun r => by omega)
  · rw [if_neg e1]
    by_cases e2 : x = a
    · rw [if_pos e2, b_or, Bool.or_eq_true, bitI_b (by omega) hy, decide_eq_true_iff]
      exact fun r => r.elim (fun r => (k4 a ha).2 y hy r) (fun r => by omega)
    · rw [if_neg e2]; exact (k4 x hx).2 y hy
theorem symK_C {D : dft} {a b : Nat} {L : Nat → Int32} (h : SymK D) (hk : DOK D) (ha : a < (dO D).length) (hb : b < (dO D).length) (hne : b ≠ a) : SymK (dP D, dO D, (L, fun x => if x = b then dK D b ||| bitI (nI a) else if x = a then dK D a ||| bitI (nI b) else dK D x), D.2.2.2) := by
  have hO := hk.1.2.1
  intro x y hx hy
  have hx : x < (dO D).length := hx
  have hy : y < (dO D).length := hy
  have v : ∀ x y, x < (dO D).length → y < (dO D).length → bt (if x = b then dK D b ||| bitI (nI a) else if x = a then dK D a ||| bitI (nI b) else dK D x) y = (bt (dK D x) y || decide ((x = b ∧ y = a) ∨ (x = a ∧ y = b))) := fun x y hx hy => by
    by_cases e1 : x = b
    · subst e1
      have : decide ((x = x ∧ y = a) ∨ (x = a ∧ y = x)) = decide (y = a) := decide_eq_decide.mpr ⟨fun q => q.elim (fun q => q.2) (fun q => absurd q.1 hne), fun q => Or.inl ⟨rfl, q⟩⟩
      rw [if_pos rfl, b_or, bitI_b (by omega) (by omega), this]
    · rw [if_neg e1]
      by_cases e2 : x = a
      · subst e2
        have : decide ((x = b ∧ y = x) ∨ (x = x ∧ y = b)) = decide (y = b) := decide_eq_decide.mpr ⟨fun q => q.elim (fun q => absurd q.1 e1) (fun q => q.2), fun q => Or.inr ⟨rfl, q⟩⟩
        rw [if_pos rfl, b_or, bitI_b (by omega) (by omega), this]
      · have : decide ((x = b ∧ y = a) ∨ (x = a ∧ y = b)) = false := decide_eq_false (fun q => q.elim (fun q => e1 q.1) (fun q => e2 q.1))
        rw [if_neg e2, this, Bool.or_false]
  show bt (if x = b then dK D b ||| bitI (nI a) else if x = a then dK D a ||| bitI (nI b) else dK D x) y = bt (if y = b then dK D b ||| bitI (nI a) else if y = a then dK D a ||| bitI (nI b) else dK D y) x
  rw [v x y hx hy, v y x hy hx, h x y hx hy]
  congr 1
  exact decide_eq_decide.mpr ⟨fun q => q.elim (fun q => Or.inr ⟨q.2, q.1⟩) (fun q => Or.inl ⟨q.2, q.1⟩), fun q => q.elim (fun q => Or.inr ⟨q.2, q.1⟩) (fun q => Or.inl ⟨q.2, q.1⟩)⟩
