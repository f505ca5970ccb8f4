/-! the city that a draft becomes -/
def ctyD (D : dft) : cty :=
  (((dP D).length, (dO D).length, (dS D).length), ((dM D).getD 5, mkI (fun x => match (dO D)[x]? with | some e => decide (e.2.1 = 2) | none => false) 32),
   (fun f i => match f with
    | 0 => match (dP D)[i]? with | some e => e.2.1 | none => 0
    | 1 => match (dP D)[i]? with | some e => e.2.2 | none => 0
    | 2 => mkI (fun x => match (dO D)[x]? with | some e => decide (e.2.2.1 = i) | none => false) 32
    | 3 => match (dO D)[i]? with | some e => nI e.2.1 | none => 0
    | 4 => match (dO D)[i]? with | some e => nI e.2.2.1 | none => 0
    | 5 => match (dO D)[i]? with | some e => e.2.2.2 | none => 0
    | 6 => dL D i
    | 7 => dK D i
    | 8 => match (dS D)[i]? with | some e => e.2.1 | none => 0
    | 9 => match (dS D)[i]? with | some e => e.2.2.1 | none => 0
    | 10 => match (dS D)[i]? with | some e => e.2.2.2.1 | none => 0
    | 11 => match (dS D)[i]? with | some e => e.2.2.2.2 | none => 0
    | _ => 0),
   noteV (dW D).isSome (((dW D).map (fun e => e.1)).getD []))
theorem get_ex {α : Type} {L : List α} {i : Nat} (h : i < L.length) : ∃ e, L[i]? = some e := ⟨_, List.getElem?_eq_getElem h⟩
theorem get_lt {α : Type} {L : List α} {i : Nat} {e : α} (h : L[i]? = some e) : i < L.length := (List.getElem?_eq_some_iff.mp h).1
section CD
variable {D : dft} {i : Nat}
theorem cD0 {e : List Nat × Int32 × Int32} (h : (dP D)[i]? = some e) : cF (ctyD D) 0 i = e.2.1 ∧ cF (ctyD D) 1 i = e.2.2 := by
  constructor
  · show (match (dP D)[i]? with | some e => e.2.1 | none => 0) = _
    rw [h]
  · show (match (dP D)[i]? with | some e => e.2.2 | none => 0) = _
    rw [h]
theorem cD3 {e : List Nat × Nat × Nat × Int32} (h : (dO D)[i]? = some e) : cF (ctyD D) 3 i = nI e.2.1 ∧ cF (ctyD D) 4 i = nI e.2.2.1 ∧ cF (ctyD D) 5 i = e.2.2.2 := by
  refine ⟨?_, ?_, ?_⟩
  · show (match (dO D)[i]? with | some e => nI e.2.1 | none => 0) = _
    rw [h]
  · show (match (dO D)[i]? with | some e => nI e.2.2.1 | none => 0) = _
    rw [h]
  · show (match (dO D)[i]? with | some e => e.2.2.2 | none => 0) = _
    rw [h]
theorem cD8 {e : List Nat × Int32 × Int32 × Int32 × Int32} (h : (dS D)[i]? = some e) : cF (ctyD D) 8 i = e.2.1 ∧ cF (ctyD D) 9 i = e.2.2.1 ∧ cF (ctyD D) 10 i = e.2.2.2.1 ∧ cF (ctyD D) 11 i = e.2.2.2.2 := by
  refine ⟨?_, ?_, ?_, ?_⟩
  · show (match (dS D)[i]? with | some e => e.2.1 | none => 0) = _
    rw [h]
  · show (match (dS D)[i]? with | some e => e.2.2.1 | none => 0) = _
    rw [h]
  · show (match (dS D)[i]? with | some e => e.2.2.2.1 | none => 0) = _
    rw [h]
  · show (match (dS D)[i]? with | some e => e.2.2.2.2 | none => 0) = _
    rw [h]
theorem cD2 {x : Nat} (hx : x < 32) : bt (cF (ctyD D) 2 i) x = true ↔ ∃ e, (dO D)[x]? = some e ∧ e.2.2.1 = i := by
  show bt (mkI (fun x => match (dO D)[x]? with | some e => decide (e.2.2.1 = i) | none => false) 32) x = true ↔ _
  rw [mkI_b hx 32 (Nat.le_refl _)]
  cases h : (dO D)[x]? with
  | none => simp
  | some e => simp [hx]
theorem cDs {x : Nat} (hx : x < 32) : bt (cSu (ctyD D)) x = true ↔ ∃ e, (dO D)[x]? = some e ∧ e.2.1 = 2 := by
  show bt (mkI (fun x => match (dO D)[x]? with | some e => decide (e.2.1 = 2) | none => false) 32) x = true ↔ _
  rw [mkI_b hx 32 (Nat.le_refl _)]
  cases h : (dO D)[x]? with
  | none => simp
  | some e => simp [hx]
end CD
theorem le_b {a b c : Int32} (h : a ≤ c ∧ c ≤ b) : a.toInt ≤ c.toInt ∧ c.toInt ≤ b.toInt := by
  rw [i_le, i_le] at h; exact h
theorem ctyD_WF {D : dft} (hk : DOK D) : WF (ctyD D) := by
  obtain ⟨⟨n1, n2, n3⟩, k2, k3, k4, k5, k6, k7⟩ := hk
  have z0 : (0 : Int32).toInt = 0 := rfl
  have z10 : (10 : Int32).toInt = 10 := rfl
  have z99 : (99 : Int32).toInt = 99 := rfl
  have z5 : (5 : Int32).toInt = 5 := rfl
  refine ⟨⟨n1, n2, n3, ?_⟩, fun p hp => ?_, fun x hx => ?_, fun x hx => ?_, fun s hs => ?_⟩
  · show 0 ≤ ((dM D).getD 5).toInt ∧ ((dM D).getD 5).toInt ≤ 10
    cases h : dM D with
    | none => show 0 ≤ (5 : Int32).toInt ∧ (5 : Int32).toInt ≤ 10; omega
    | some m => have := le_b (k7 m h); show 0 ≤ m.toInt ∧ m.toInt ≤ 10; omega
  · obtain ⟨e, he⟩ := get_ex (show p < (dP D).length from hp)
    obtain ⟨c0, c1⟩ := cD0 he
    obtain ⟨b1, b2⟩ := k2 e (List.mem_of_getElem? he)
    have b1 := le_b b1
    have b2 := le_b b2
    rw [c0, c1]
    refine ⟨⟨by omega, by omega⟩, ⟨by omega, by omega⟩, fun x hx => ?_⟩
    rw [cD2 hx]
    constructor
    · rintro ⟨e', h1, h2⟩
      exact ⟨get_lt h1, by rw [(cD3 h1).2.1, h2]⟩
    · rintro ⟨h1, h2⟩
      obtain ⟨e', h3⟩ := get_ex (show x < (dO D).length from h1)
      have hl := (k3 e' (List.mem_of_getElem? h3)).2.1
      have hp : p < (dP D).length := hp
      rw [(cD3 h3).2.1, nI_eq (by omega) (by omega)] at h2
      exact ⟨e', h3, h2⟩
  · obtain ⟨e, he⟩ := get_ex (show x < (dO D).length from hx)
    obtain ⟨c3, c4, c5⟩ := cD3 he
    obtain ⟨b1, b2, b3⟩ := k3 e (List.mem_of_getElem? he)
    obtain ⟨g1, g2⟩ := k4 x hx
    exact ⟨⟨_, b2, c4⟩, ⟨_, b1, c3⟩, g1, g2⟩
  · rw [cDs hx]
    constructor
    · rintro ⟨e', h1, h2⟩
      exact ⟨get_lt h1, by rw [(cD3 h1).1, h2]; rfl⟩
    · rintro ⟨h1, h2⟩
      obtain ⟨e', h3⟩ := get_ex (show x < (dO D).length from h1)
      have hl := (k3 e' (List.mem_of_getElem? h3)).1
      rw [(cD3 h3).1] at h2
      exact ⟨e', h3, (nI_eq (b := 2) (by omega) (by decide)).mp h2⟩
  · obtain ⟨e, he⟩ := get_ex (show s < (dS D).length from hs)
    obtain ⟨c8, c9, c10, c11⟩ := cD8 he
    obtain ⟨b1, b2, b3, b4⟩ := k5 s e he
    have b1 := le_b b1
    have b2 := le_b b2
    rw [c8, c9, c10, c11]
    exact ⟨⟨by omega, by omega⟩, ⟨by omega, by omega⟩, b3, b4⟩
theorem ctyD_CV {D : dft} {d : Nat} {M : mm} (hc : DCc d D M) (hk : DOK D) : CV (ctyD D) d M := by
  obtain ⟨h1, ⟨h2, h3, h4⟩, ⟨h5, h6, h7⟩, h8, h9, h10, h11, h12, ⟨h13, h14⟩, h15, h16, h19⟩ := hc
  obtain ⟨⟨n1, n2, n3⟩, k2, k3, k4, k5, k6, k7⟩ := hk
  refine ⟨⟨⟨h2, h3, h4, h13, b_ext (fun i hi => ?_)⟩, fun i hi => ?_, fun i hi => ?_, fun i hi => ?_, _, (dW D).isSome, h16, ?_, rfl⟩, fun x a hx ha => Or.inl ?_⟩
  · have e1 := h11 i hi
    have e2 := cDs (D := D) hi
    rw [← e2] at e1
    cases q : bt (M.1 1 d 12) i <;> cases q2 : bt (cSu (ctyD D)) i <;> rw [q, q2] at e1 <;> simp at e1 <;> rfl
  · obtain ⟨e, he⟩ := get_ex (show i < (dP D).length from hi)
    obtain ⟨c0, c1⟩ := cD0 he
    rw [c0, c1]
    refine ⟨(h8 i e he).1, (h8 i e he).2, b_ext (fun x hx => ?_)⟩
    have hi : i < (dP D).length := hi
    have e1 := h9 i (by omega) x hx
    have e2 := cD2 (D := D) (i := i) hx
    rw [← e2] at e1
    cases q : bt (M.1 23 d i) x <;> cases q2 : bt (cF (ctyD D) 2 i) x <;> rw [q, q2] at e1 <;> simp at e1 <;> rfl
  · obtain ⟨e, he⟩ := get_ex (show i < (dO D).length from hi)
    obtain ⟨c3, c4, c5⟩ := cD3 he
    rw [c3, c4, c5]
    exact h10 i e he
  · obtain ⟨e, he⟩ := get_ex (show i < (dS D).length from hi)
    obtain ⟨c8, c9, c10, c11⟩ := cD8 he
    rw [c8, c9, c10, c11]
    exact h12 i e he
  · exact h15
  · have hx : x < (dO D).length := hx
    exact h19 _ (by omega)
theorem ctyD_MV {D : dft} {M M' : mm} (hc : DMm D M) (hk : DOK D) (hL : LOK D) (h : LyQ M M') : MV (ctyD D) M' := by
  obtain ⟨⟨h1, h2, h3⟩, ⟨h4, h5, h6⟩, ⟨h7, h8, h9⟩, h10, h11, h12, h13, h14⟩ := hc
  obtain ⟨⟨n1, n2, n3⟩, k2, k3, k4, k5, k6, k7⟩ := hk
  obtain ⟨v64, v65, v66, v67, v68, v69, v70, v71, v72, v73, v74, v75, v76, v77, v78, v81, v79, v80⟩ := h
  refine ⟨⟨(v64 0 (by omega)).trans h1, (v64 1 (by omega)).trans h2, (v64 2 (by omega)).trans h3, (v64 3 (by omega)).trans h4⟩, fun i hi => ?_, fun i hi => ?_, fun i hi => ?_, ?_⟩
  · have hi : i < (dP D).length := hi
    obtain ⟨e, he⟩ := get_ex hi
    obtain ⟨c0, c1⟩ := cD0 he
    rw [c0, c1, v68 i (by omega), v69 i (by omega)]
    exact h10 i e he
  · have hi : i < (dO D).length := hi
    obtain ⟨e, he⟩ := get_ex hi
    obtain ⟨c3, c4, c5⟩ := cD3 he
    rw [c3, c4, c5, v70 i (by omega), v71 i (by omega), v72 i (by omega), v73 i (by omega), v74 i (by omega)]
    exact h11 i e he
  · have hi : i < (dS D).length := hi
    obtain ⟨e, he⟩ := get_ex hi
    obtain ⟨c8, c9, c10, c11⟩ := cD8 he
    obtain ⟨g1, g2, g3, g4⟩ := h12 i e he
    rw [c8, c9, c10, c11, v75 i (by omega), v76 i (by omega), v77 i (by omega), v78 i (by omega)]
    exact ⟨g1, fun _ => g2, g3, g4⟩
  · have sub : ∀ n, n ≤ 1000 → nI (1000 + n) - (1000 : Int32) = nI n := fun n _ => by
      rw [← nI_add, Int32.add_comm]; exact Int32.add_sub_cancel _ _
    unfold LwM at h14
    unfold LVm
    cases hW : dW D with
    | none =>
      rw [hW] at h14
      obtain ⟨l1, l2, l3⟩ := h14
      refine ⟨by rw [v79, l1]; rfl, [], by rw [v80, l2]; rfl, Nat.zero_le _, (fun i c hi => by cases hi), fun _ => ?_, fun q => absurd rfl q⟩
      show noteV (dW D).isSome (((dW D).map (fun e => e.1)).getD []) = plainV
      rw [hW]; rfl
    | some w =>
      obtain ⟨cs, ks⟩ := w
      rw [hW] at h14
      obtain ⟨l1, l2, l3, l4, l5, l6⟩ := h14
      obtain ⟨x1, x2⟩ := hL cs ks hW
      refine ⟨by rw [v79, l1]; rfl, ks, by rw [v80, l2]; exact sub _ l5, l5, fun i c hi => ?_, fun q => absurd q x1, fun _ b y k a => ?_⟩
      · have := get_lt hi
        rw [v81 i (by omega)]; exact l6 i c hi
      · obtain ⟨f, v, y1, y2⟩ := x2 b y k a
        refine ⟨f, v, y1, ?_⟩
        show kpV f v = noteV (dW D).isSome (((dW D).map (fun e => e.1)).getD []) b y k a
        rw [hW]
        show kpV f v = ((pev b y k a cs).getLast?).getD 0
        rw [y2]; rfl
