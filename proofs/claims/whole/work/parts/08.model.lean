/-! MODELS: what a method does, as a function of its arguments and the memory; none where it would leave its bounds. And the rules that a walk follows its model. -/
def mT : Nat := 168
theorem mT_len : mPlan.length = mT := by decide +kernel
def nm {α β : Type} (e : α) (f : α → β) : β := f e
/-- an index within its array -/
def gi {α : Type} (i : Int32) (n : Nat) (o : Option α) : Option α := if i < 0 ∨ n ≤ i.toNatClampNeg then none else o
def cl {α : Type} (o : Option (Int32 × mm)) (f : Int32 → mm → Option α) : Option α := match o with | some p => f p.1 p.2 | none => none
def cb {α : Type} (o : Option (Bool × mm)) (f : Bool → mm → Option α) : Option α := match o with | some p => f p.1 p.2 | none => none
def cv {α : Type} (o : Option mm) (f : mm → Option α) : Option α := match o with | some p => f p | none => none
/-- a stretch that comes together again -/
def bd {α β : Type} (o : Option α) (f : α → Option β) : Option β := match o with | some p => f p | none => none
/-- a loop: n turns at the most -/
def lp {σ ρ : Type} (f : σ → Option (σ ⊕ ρ)) : Nat → σ → Option ρ
  | 0, _ => none
  | n + 1, s => match f s with
    | none => none
    | some (.inl s') => lp f n s'
    | some (.inr r) => some r
abbrev LM (G : mg) (d : Nat) (Y : mY) (Z : mZ) (pc : Nat) (ls : List (Option mv)) (st : List mv) (M : mm) : Prop := LW G rdM (mRm d 0 0) Y Z mT 0 0 pc ls st M
def SW {α : Type} (G : mg) (d : Nat) (Y : mY) (Z : mZ) (pc : Nat) (ls : List (Option mv)) (st : List mv) (M : mm) (o : Option α) (K : α → Prop) : Prop := ∀ a, o = some a → K a → LM G d Y Z pc ls st M
section GM
variable {α β σ ρ : Type} {G : mg} {d : Nat} {Y : mY} {Z : mZ} {pc pc' pcA pcB : Nat} {ls lsA lsB : List (Option mv)} {st stA stB : List mv} {M MA MB : mm} {o o1 o2 : Option α} {K : α → Prop}
theorem s_step (h : LM G d Y Z pcA lsA stA MA → LM G d Y Z pc ls st M) (k : SW G d Y Z pcA lsA stA MA o K) : SW G d Y Z pc ls st M o K := fun a ho hk => h (k a ho hk)
theorem s_end {a : α} (h : K a → LM G d Y Z pc ls st M) : SW G d Y Z pc ls st M (some a) K := fun b hb hk => by cases hb; exact h hk
theorem s_if {c : Prop} [Decidable c] (h : (c → LM G d Y Z pcA lsA stA MA) → (¬ c → LM G d Y Z pcB lsB stB MB) → LM G d Y Z pc ls st M) (kt : c → SW G d Y Z pcA lsA stA MA o1 K) (kf : ¬ c → SW G d Y Z pcB lsB stB MB o2 K) : SW G d Y Z pc ls st M (if c then o1 else o2) K := by
  intro a ho hk
  by_cases hc : c
  · rw [if_pos hc] at ho; exact h (fun q => kt q a ho hk) (fun q => absurd hc q)
  · rw [if_neg hc] at ho; exact h (fun q => absurd q hc) (fun q => kf q a ho hk)
theorem s_ifn {c : Prop} [Decidable c] (h : (¬ c → LM G d Y Z pcA lsA stA MA) → (c → LM G d Y Z pcB lsB stB MB) → LM G d Y Z pc ls st M) (kt : c → SW G d Y Z pcB lsB stB MB o1 K) (kf : ¬ c → SW G d Y Z pcA lsA stA MA o2 K) : SW G d Y Z pc ls st M (if c then o1 else o2) K := by
  intro a ho hk
  by_cases hc : c
  · rw [if_pos hc] at ho; exact h (fun q => absurd hc q) (fun q => kt q a ho hk)
  · rw [if_neg hc] at ho; exact h (fun q => kf q a ho hk) (fun q => absurd q hc)
theorem bI_0 {b : Bool} : bI b = 0 ↔ ¬ b = true := by cases b <;> decide
theorem s_ifeqb {b : Bool} (h : (bI b = 0 → LM G d Y Z pcA lsA stA MA) → (¬ bI b = 0 → LM G d Y Z pcB lsB stB MB) → LM G d Y Z pc ls st M) (kt : b = true → SW G d Y Z pcB lsB stB MB o1 K) (kf : ¬ b = true → SW G d Y Z pcA lsA stA MA o2 K) : SW G d Y Z pc ls st M (if b = true then o1 else o2) K := by
  intro a ho hk
  by_cases hc : b = true
  · rw [if_pos hc] at ho; exact h (fun q => absurd hc (bI_0.mp q)) (fun _ => kt hc a ho hk)
  · rw [if_neg hc] at ho; exact h (fun _ => kf hc a ho hk) (fun q => absurd (bI_0.mpr hc) q)
theorem s_ifneb {b : Bool} (h : (¬ bI b = 0 → LM G d Y Z pcA lsA stA MA) → (bI b = 0 → LM G d Y Z pcB lsB stB MB) → LM G d Y Z pc ls st M) (kt : b = true → SW G d Y Z pcA lsA stA MA o1 K) (kf : ¬ b = true → SW G d Y Z pcB lsB stB MB o2 K) : SW G d Y Z pc ls st M (if b = true then o1 else o2) K := by
  intro a ho hk
  by_cases hc : b = true
  · rw [if_pos hc] at ho; exact h (fun _ => kt hc a ho hk) (fun q => absurd hc (bI_0.mp q))
  · rw [if_neg hc] at ho; exact h (fun q => absurd (bI_0.mpr hc) q) (fun _ => kf hc a ho hk)
theorem s_gi {i : Int32} {n : Nat} (h : vp_in i n → LM G d Y Z pcA lsA stA MA → LM G d Y Z pc ls st M) (k : SW G d Y Z pcA lsA stA MA o K) : SW G d Y Z pc ls st M (gi i n o) K := by
  intro a ho hk
  unfold gi at ho
  by_cases hc : i < 0 ∨ n ≤ i.toNatClampNeg
  · rw [if_pos hc] at ho; cases ho
  · rw [if_neg hc] at ho; exact h hc (k a ho hk)
theorem s_nmM {f : mm → Option α} (k : ∀ x, SW G d Y Z pc ls st x (f x) K) : SW G d Y Z pc ls st M (nm M f) K := k M
theorem s_nmI {e : Int32} {f : Int32 → Option α} (k : ∀ x, SW G d Y Z pc ls (vI x :: st) M (f x) K) : SW G d Y Z pc ls (vI e :: st) M (nm e f) K := k e
theorem s_nmL {e : Int64} {f : Int64 → Option α} (k : ∀ x, SW G d Y Z pc ls (vL x :: st) M (f x) K) : SW G d Y Z pc ls (vL e :: st) M (nm e f) K := k e
theorem s_nmR {q e : Nat} {f : Nat → Option α} (k : ∀ x, SW G d Y Z pc ls (vR q x :: st) M (f x) K) : SW G d Y Z pc ls (vR q e :: st) M (nm e f) K := k e
theorem s_cl {oc : Option (Int32 × mm)} {f : Int32 → mm → Option α} {sf : Int32 → List mv} (h : ∀ x M', oc = some (x, M') → LM G d Y Z pcA lsA (sf x) M' → LM G d Y Z pc ls st M) (k : ∀ x M', SW G d Y Z pcA lsA (sf x) M' (f x M') K) : SW G d Y Z pc ls st M (cl oc f) K := by
  intro a ho hk
  cases hc : oc with
  | none => rw [hc] at ho; cases ho
  | some p => rw [hc] at ho; exact h p.1 p.2 hc (k p.1 p.2 a ho hk)
theorem s_cb {oc : Option (Bool × mm)} {f : Bool → mm → Option α} {sf : Bool → List mv} (h : ∀ x M', oc = some (x, M') → LM G d Y Z pcA lsA (sf x) M' → LM G d Y Z pc ls st M) (k : ∀ x M', SW G d Y Z pcA lsA (sf x) M' (f x M') K) : SW G d Y Z pc ls st M (cb oc f) K := by
  intro a ho hk
  cases hc : oc with
  | none => rw [hc] at ho; cases ho
  | some p => rw [hc] at ho; exact h p.1 p.2 hc (k p.1 p.2 a ho hk)
theorem s_cv {oc : Option mm} {f : mm → Option α} (h : ∀ M', oc = some M' → LM G d Y Z pcA lsA stA M' → LM G d Y Z pc ls st M) (k : ∀ M', SW G d Y Z pcA lsA stA M' (f M') K) : SW G d Y Z pc ls st M (cv oc f) K := by
  intro a ho hk
  cases hc : oc with
  | none => rw [hc] at ho; cases ho
  | some p => rw [hc] at ho; exact h p hc (k p a ho hk)
theorem s_bd {ob : Option β} {f : β → Option α} (Kx : β → Prop) (h1 : SW G d Y Z pc ls st M ob Kx) (h2 : ∀ v a, f v = some a → K a → Kx v) : SW G d Y Z pc ls st M (bd ob f) K := by
  intro a ho hk
  cases hc : ob with
  | none => rw [hc] at ho; cases ho
  | some p => rw [hc] at ho; exact h1 p hc (h2 p a ho hk)
theorem s_nj {γ : Type} {f : γ → Option α} {g : (γ → Option α) → Option α} (pcj : Nat) (lf : γ → List (Option mv)) (sf : γ → List mv) (Mf : γ → mm) (hf : ∀ z, SW G d Y Z pcj (lf z) (sf z) (Mf z) (f z) K) (hg : ∀ j : γ → Option α, (∀ z, SW G d Y Z pcj (lf z) (sf z) (Mf z) (j z) K) → SW G d Y Z pc ls st M (g j) K) : SW G d Y Z pc ls st M (nm f g) K := hg f hf
theorem s_lp0 {body : σ → Option (σ ⊕ ρ)} (lf : σ → List (Option mv)) (Mf : σ → mm) (Kx : ρ → Prop) (hb : ∀ s, SW G d Y Z pc (lf s) [] (Mf s) (body s) (fun t => match t with | .inl s' => LM G d Y Z pc (lf s') [] (Mf s') | .inr r => Kx r)) : ∀ (n : Nat) (s : σ), SW G d Y Z pc (lf s) [] (Mf s) (lp body n s) Kx := by
  intro n
  induction n with
  | zero => intro s a ho; cases ho
  | succ n ih =>
    intro s a ho hk
    simp only [lp] at ho
    cases hc : body s with
    | none => rw [hc] at ho; cases ho
    | some t =>
      rw [hc] at ho
      cases t with
      | inl s' => exact hb s _ hc (ih s' a ho hk)
      | inr r => cases ho; exact hb s _ hc hk
theorem s_lp {body : σ → Option (σ ⊕ ρ)} {rest : ρ → Option α} {F : Nat} {s0 : σ} (lf : σ → List (Option mv)) (Mf : σ → mm) (Kx : ρ → Prop) (hl : lf s0 = ls) (hM : Mf s0 = M) (hb : ∀ s, SW G d Y Z pc (lf s) [] (Mf s) (body s) (fun t => match t with | .inl s' => LM G d Y Z pc (lf s') [] (Mf s') | .inr r => Kx r)) (h2 : ∀ v a, rest v = some a → K a → Kx v) : SW G d Y Z pc ls [] M (bd (lp body F s0) rest) K := by
  subst hl; subst hM
  exact s_bd Kx (s_lp0 lf Mf Kx hb F s0) h2
theorem s_reti {x : Int32} (hd : iAt Y.2.2.1 pc .ireturn 1 pc') (hr : Y.2.2.2.2.1 = some .int) : SW G d Y Z pc ls [vI x] M (some (x, M)) (fun a => Z = mZm G rdM mT (some (vI a.1)) a.2 0 0) := by
  intro a ho hk
  cases ho
  subst hk
  exact g_iret hd hr
theorem s_retz {b : Bool} {x : Int32} (hd : iAt Y.2.2.1 pc .ireturn 1 pc') (hr : Y.2.2.2.2.1 = some .boolean) (hx : x = bI b) : SW G d Y Z pc ls [vI x] M (some (b, M)) (fun a => Z = mZm G rdM mT (some (vI (bI a.1))) a.2 0 0) := by
  intro a ho hk
  cases ho
  subst hk
  exact g_zret hd hr hx
theorem s_retv (hd : iAt Y.2.2.1 pc .return_ 1 pc') (hr : Y.2.2.2.2.1 = none) : SW G d Y Z pc ls [] M (some M) (fun a => Z = mZm G rdM mT none a 0 0) := by
  intro a ho hk
  cases ho
  subst hk
  exact g_vret hd hr
/-- the contract of a method of the main phase -/
abbrev CM (G : mg) (y : MethodName) (cc : ByteArray) (nL : Nat) (ret : Option FieldType) (d : Nat) (As : List mv) (M : mm) (r : Option mv) (M' : mm) : Prop := CT G rdM y cc nL ret none d 0 0 mT mT As M r M'
theorem ct_i {y : MethodName} {cc : ByteArray} {nL : Nat} {As : List mv} {o : Option (Int32 × mm)} (hy : plainName y.cls = true) (hls : entL As nL = ls) (hn : (lg_sl (As.map (rv G))).length ≤ nL) (h : ∀ Z, SW G d (y.cls, y.name, cc, nL, some .int, none) Z 0 ls [] M o (fun a => Z = mZm G rdM mT (some (vI a.1)) a.2 0 0)) {x : Int32} {M' : mm} (ho : o = some (x, M')) : CM G y cc nL (some .int) d As M (some (vI x)) M' :=
  ct_of hy hls hn (h _ _ ho rfl)
theorem ct_z {y : MethodName} {cc : ByteArray} {nL : Nat} {As : List mv} {o : Option (Bool × mm)} (hy : plainName y.cls = true) (hls : entL As nL = ls) (hn : (lg_sl (As.map (rv G))).length ≤ nL) (h : ∀ Z, SW G d (y.cls, y.name, cc, nL, some .boolean, none) Z 0 ls [] M o (fun a => Z = mZm G rdM mT (some (vI (bI a.1))) a.2 0 0)) {x : Bool} {M' : mm} (ho : o = some (x, M')) : CM G y cc nL (some .boolean) d As M (some (vI (bI x))) M' :=
  ct_of hy hls hn (h _ _ ho rfl)
theorem ct_v {y : MethodName} {cc : ByteArray} {nL : Nat} {As : List mv} {o : Option mm} (hy : plainName y.cls = true) (hls : entL As nL = ls) (hn : (lg_sl (As.map (rv G))).length ≤ nL) (h : ∀ Z, SW G d (y.cls, y.name, cc, nL, none, none) Z 0 ls [] M o (fun a => Z = mZm G rdM mT none a 0 0)) {M' : mm} (ho : o = some M') : CM G y cc nL none d As M none M' :=
  ct_of hy hls hn (h _ _ ho rfl)
/-- calls of the main phase -/
theorem h_V {k n idx ci np nL d' : Nat} {y : MethodName} {cc : ByteArray} {ret : Option FieldType} {C : String} {T : u_T} {N : Nat} {As rest : List mv} {r : Option mv} {M' : mm} (hd : iAt Y.2.2.1 pc (.invokevirtual idx) 3 pc') (hm : mML Y.1 idx y cc nL ret np) (hi : Cond.instanceMethod y ∈ mGood ∧ Cond.selects y.cls y y ∈ mGood) (hk : kOb k = some ci) (hc : mCl[ci]? = some (C, T, N)) (hy : y.cls = C)
    (hst : st = As.reverse ++ vR k n :: rest) (hn : As.length = np) (hC : CM G y cc nL ret d' (vR k n :: As) M r M') (hsa : r.toList ++ rest = stA) (hdd : d' + 1 ≤ d) (hnL : nL ≤ 20) (hw : ((rest.map (rv G)).map fun v => v.category).sum ≤ 8)
    (kk : LM G d Y Z pc' ls stA M') : LM G d Y Z pc ls st M :=
  g_callV hd hm hi hk hc hy hst hn hC ⟨hdd, by show 8 + (nL + 11) + 40 * d' ≤ 40 * d; omega⟩ hw ⟨Nat.zero_le _, Nat.zero_le _⟩ (fun _ h => by cases h) (Nat.le_refl _) (by rw [hsa]; exact kk)
theorem h_S {idx np nL d' : Nat} {y : MethodName} {cc : ByteArray} {ret : Option FieldType} {As rest : List mv} {r : Option mv} {M' : mm} (hd : iAt Y.2.2.1 pc (.invokestatic idx) 3 pc') (hm : mML Y.1 idx y cc nL ret np) (hi : Cond.static y ∈ mGood)
    (hst : st = As.reverse ++ rest) (hn : As.length = np) (hC : CM G y cc nL ret d' As M r M') (hsa : r.toList ++ rest = stA) (hdd : d' + 1 ≤ d) (hnL : nL ≤ 20) (hw : ((rest.map (rv G)).map fun v => v.category).sum ≤ 8)
    (kk : LM G d Y Z pc' ls stA M') : LM G d Y Z pc ls st M :=
  g_callS hd hm hi hst hn hC ⟨hdd, by show 8 + (nL + 11) + 40 * d' ≤ 40 * d; omega⟩ hw ⟨Nat.zero_le _, Nat.zero_le _⟩ (fun _ h => by cases h) (Nat.le_refl _) (by rw [hsa]; exact kk)
end GM
