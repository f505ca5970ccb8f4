/-! the walk follows its model: in any phase -/
def SG {α : Type} (G : mg) (rd : mrd) (R : Room) (Y : mY) (Z : mZ) (top cells slots pc : Nat) (ls : List (Option mv)) (st : List mv) (M : mm) (o : Option α) (K : α → Prop) : Prop := ∀ a, o = some a → K a → LW G rd R Y Z top cells slots pc ls st M
section GG
variable {α β σ ρ : Type} {G : mg} {rd : mrd} {R : Room} {Y : mY} {Z : mZ} {top cells slots topA cellsA slotsA pc pc' pcA : Nat} {ls lsA : List (Option mv)} {st stA : List mv} {M MA : mm} {o : Option α} {K : α → Prop}
theorem q_step (h : LW G rd R Y Z topA cellsA slotsA pcA lsA stA MA → LW G rd R Y Z top cells slots pc ls st M) (k : SG G rd R Y Z topA cellsA slotsA pcA lsA stA MA o K) : SG G rd R Y Z top cells slots pc ls st M o K := fun a ho hk => h (k a ho hk)
theorem q_nmM {f : mm → Option α} (k : ∀ x, SG G rd R Y Z top cells slots pc ls st x (f x) K) : SG G rd R Y Z top cells slots pc ls st M (nm M f) K := k M
theorem q_val {e v : Int32} (h : e = v) (k : SG G rd R Y Z top cells slots pc ls (vI v :: st) M o K) : SG G rd R Y Z top cells slots pc ls (vI e :: st) M o K := by subst h; exact k
theorem q_cv {oc : Option mm} {f : mm → Option α} (h : ∀ M', oc = some M' → LW G rd R Y Z topA cellsA slotsA pcA lsA stA M' → LW G rd R Y Z top cells slots pc ls st M) (k : ∀ M', SG G rd R Y Z topA cellsA slotsA pcA lsA stA M' (f M') K) : SG G rd R Y Z top cells slots pc ls st M (cv oc f) K := by
  intro a ho hk
  cases hc : oc with
  | none => rw [hc] at ho; cases ho
  | some p => rw [hc] at ho; exact h p hc (k p a ho hk)
def gt {γ : Type} (c : Prop) [Decidable c] (o : Option γ) : Option γ := if c then o else none
theorem q_gt {c : Prop} [Decidable c] (h : c → LW G rd R Y Z topA cellsA slotsA pcA lsA stA MA → LW G rd R Y Z top cells slots pc ls st M) (k : SG G rd R Y Z topA cellsA slotsA pcA lsA stA MA o K) : SG G rd R Y Z top cells slots pc ls st M (gt c o) K := by
  intro a ho hk
  unfold gt at ho
  by_cases hc : c
  · rw [if_pos hc] at ho; exact h hc (k a ho hk)
  · rw [if_neg hc] at ho; cases ho
theorem q_retv (hd : iAt Y.2.2.1 pc .return_ 1 pc') (hr : Y.2.2.2.2.1 = none) : SG G rd R Y Z top cells slots pc ls [] M (some M) (fun a => Z = mZm G rd top none a cells slots) := by
  intro a ho hk
  cases ho
  subst hk
  exact g_vret hd hr
theorem cc_v {al : Option Nat} {d mc ms top' : Nat} {y : MethodName} {cc : ByteArray} {nL : Nat} {As : List mv} {o : Option mm} (hy : plainName y.cls = true) (hls : entL As nL = ls) (hn : (lg_sl (As.map (rv G))).length ≤ nL) (h : ∀ Z, SG G rd (mRm d mc ms) (y.cls, y.name, cc, nL, none, al) Z top 0 0 0 ls [] M o (fun a => Z = mZm G rd top' none a mc ms)) {M' : mm} (ho : o = some M') : CT G rd y cc nL none al d mc ms top top' As M none M' :=
  ct_of hy hls hn (h _ _ ho rfl)
theorem mAl_some {t t0 : Nat} (h1 : t = top) (h2 : Y.2.2.2.2.2 = some t0) (h3 : t0 + cells = top) : mAl Y (some t) top cells := fun _ h => by cases h; exact ⟨h1, t0, h2, h3⟩
theorem mAl_none : mAl Y none top cells := fun _ h => by cases h
end GG
def vpB (i : Int32) (n : Nat) : Bool := !(decide (i < 0) || decide (n ≤ i.toNatClampNeg))
theorem vp_of {i : Int32} {n : Nat} (h : vpB i n = true) : vp_in i n := by
  intro q
  simp only [vpB, Bool.not_eq_true', Bool.or_eq_false_iff, decide_eq_false_iff_not] at h
  rcases q with q | q
  · exact h.1 q
  · exact h.2 q
