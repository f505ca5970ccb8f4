/-! all that is held between calls, as a value: the city, the moment, what can be undone (the eldest first), the marks, the life (deed, whom), what is heard (stone, up), the tape -/
abbrev lty : Type := List (Int32 × Int32)
abbrev hty : Type := List (Nat × Bool)
abbrev sty : Type := cty × mty × List mty × (Nat → Option (mty × lty × hty)) × lty × hty × List Int32
def aC (A : sty) : cty := A.1
def aM (A : sty) : mty := A.2.1
def aU (A : sty) : List mty := A.2.2.1
def aK (A : sty) : Nat → Option (mty × lty × hty) := A.2.2.2.1
def aL (A : sty) : lty := A.2.2.2.2.1
def aH (A : sty) : hty := A.2.2.2.2.2.1
def aT (A : sty) : List Int32 := A.2.2.2.2.2.2
/-- a sign of the tape -/
def SgOk (x : Int32) : Prop := x = 10 ∨ (32 ≤ x.toInt ∧ x.toInt ≤ 126)
def LfOk (C : cty) (L : lty) : Prop := L.length ≤ 40 ∧ ∀ e, e ∈ L → (e.1 = 3 ∨ ((e.1 = 0 ∨ e.1 = 1) ∧ ∃ n, n < cO C ∧ e.2 = nI n) ∨ (e.1 = 2 ∧ ∃ n, n < cS C ∧ e.2 = nI n))
def HdOk (C : cty) (H : hty) : Prop := H.length ≤ 10 ∧ ∀ e, e ∈ H → e.1 < cS C
def AOK (A : sty) (N : Nat) : Prop :=
  WF (aC A) ∧ (MG (aC A) (aM A) (100 * N) ∧ MS (aC A) (aM A)) ∧ ((aU A).length ≤ 16 ∧ ∀ u, u ∈ aU A → MG (aC A) u (100 * N) ∧ MS (aC A) u) ∧ (∀ k v, aK A k = some v → (MG (aC A) v.1 (100 * N) ∧ MS (aC A) v.1) ∧ LfOk (aC A) v.2.1 ∧ HdOk (aC A) v.2.2) ∧ LfOk (aC A) (aL A) ∧ HdOk (aC A) (aH A) ∧ (aT A).length ≤ 1000 ∧ ∀ x, x ∈ aT A → SgOk x
/-- frames by single cells -/
def fi (P : Nat → Nat → Nat → Prop) (M M' : mm) : Prop := M'.2.2 = M.2.2 ∧ ∀ k n i, ¬ P k n i → M'.1 k n i = M.1 k n i ∧ M'.2.1 k n i = M.2.1 k n i
section FI
variable {P Q : Nat → Nat → Nat → Prop} {M M' M'' : mm}
theorem fi_rf : fi P M M := ⟨rfl, fun _ _ _ _ => ⟨rfl, rfl⟩⟩
theorem fi_tr (h : fi P M M') (k : fi P M' M'') : fi P M M'' := ⟨k.1.trans h.1, fun a b c q => ⟨((k.2 a b c q).1).trans (h.2 a b c q).1, ((k.2 a b c q).2).trans (h.2 a b c q).2⟩⟩
theorem fi_mono (h : fi P M M') (hq : ∀ k n i, P k n i → Q k n i) : fi Q M M' := ⟨h.1, fun a b c q => h.2 a b c (fun p => q (hq a b c p))⟩
theorem fi_fr {R : Nat → Nat → Prop} (h : fr R M M') (hq : ∀ k n i, R k n → P k n i) : fi P M M' := ⟨h.1, fun a b c q => by have := h.2 a b (fun r => q (hq a b c r)); exact ⟨by rw [this.1], by rw [this.2]⟩⟩
theorem fr_fi (h : fi P M M') : fr (fun k n => ∃ i, P k n i) M M' := ⟨h.1, fun a b q => ⟨by funext i; exact (h.2 a b i (fun p => q ⟨i, p⟩)).1, by funext i; exact (h.2 a b i (fun p => q ⟨i, p⟩)).2⟩⟩
theorem fi_sI {k n i : Nat} {v : Int32} (h : fi P M M') (hp : P k n i) : fi P M (sI M' k n i v) := by
  refine ⟨h.1, fun a b c q => ⟨?_, (h.2 a b c q).2⟩⟩
  rw [← (h.2 a b c q).1, rII, if_neg]
  rintro ⟨rfl, rfl, rfl⟩; exact q hp
theorem fi_sL {k n i : Nat} {v : Int64} (h : fi P M M') (hp : P k n i) : fi P M (sL M' k n i v) := by
  refine ⟨h.1, fun a b c q => ⟨(h.2 a b c q).1, ?_⟩⟩
  rw [← (h.2 a b c q).2, rLL, if_neg]
  rintro ⟨rfl, rfl, rfl⟩; exact q hp
theorem fi_I (h : fi P M M') {k n i : Nat} (hk : ¬ P k n i) : M'.1 k n i = M.1 k n i := (h.2 k n i hk).1
theorem fi_L (h : fi P M M') {k n i : Nat} (hk : ¬ P k n i) : M'.2.1 k n i = M.2.1 k n i := (h.2 k n i hk).2
end FI
/-! the class's memory -/
/-- a told: its life, what is heard -/
def ToL (t : Nat) (M : mm) (L : lty) : Prop := M.1 9 t 0 = nI L.length ∧ ∀ i e, L[i]? = some e → M.1 45 t i = e.1 ∧ (e.1 ≠ 3 → M.1 46 t i = e.2)
def ToH (t : Nat) (M : mm) (H : hty) : Prop := M.1 9 t 3 = nI H.length ∧ (∀ s, s < 32 → (bt (M.1 9 t 4) s = true ↔ (s, true) ∈ H)) ∧ ∀ s, s < 32 → (bt (M.1 9 t 5) s = true ↔ (s, false) ∈ H)
def TpC (M : mm) (T : List Int32) : Prop := M.1 7 0 2 = nI T.length ∧ ∀ i x, T[i]? = some x → M.1 40 0 i = x
/-- the words that are kept, packed by 32 -/
def wordL : List Nat := [17345389998, 6357672, 680706676, 15764648, 89, 71943827, 0]
def UnC (M : mm) (U : List mty) : Prop := M.1 12 0 14 = nI U.length ∧ ∃ f, f < 16 ∧ M.1 12 0 13 = nI f ∧ ∀ i u, U[i]? = some u → MoM (9 + (f + i) % 16) M u
def MkC (M : mm) (K : Nat → Option (mty × lty × hty)) : Prop := ∀ k, k < 4 → bt (M.1 12 0 17) k = (K k).isSome ∧ ∀ v, K k = some v → MoM (25 + k) M v.1 ∧ ToL (2 + k) M v.2.1 ∧ ToH (2 + k) M v.2.2
def RCs (A : sty) (M : mm) : Prop := MoM 7 M (aM A) ∧ UnC M (aU A) ∧ MkC M (aK A) ∧ ToL 0 M (aL A) ∧ ToH 0 M (aH A) ∧ TpC M (aT A)
/-- cells on which none of this rests -/
def GC : Nat → Nat → Nat → Prop := fun k n i => k ≤ 4 ∨ k = 6 ∨ k = 8 ∨ k = 10 ∨ k = 11 ∨ (k = 5 ∧ (n ≤ 6 ∨ n = 8)) ∨ (20 ≤ k ∧ k ≤ 39) ∨ k = 43 ∨ k = 44 ∨ 47 ≤ k ∨ ((k = 9 ∨ k = 45 ∨ k = 46) ∧ n = 1) ∨ (k = 7 ∧ i ≠ 2) ∨ k = 13 ∨ k = 41
theorem MoM_c {i : Nat} {M M' : mm} {mo : mty} (h : MoM i M mo) (e : ∀ j, j < 4 → M'.1 5 i j = M.1 5 i j) : MoM i M' mo := by
  unfold MoM at h ⊢
  rw [e 0 (by omega), e 1 (by omega), e 2 (by omega), e 3 (by omega)]; exact h
theorem ToL_c {t : Nat} {M M' : mm} {L : lty} (h : ToL t M L) (e : ∀ k j, k = 9 ∨ k = 45 ∨ k = 46 → M'.1 k t j = M.1 k t j) : ToL t M' L := by
  unfold ToL at h ⊢
  simp only [e 9 _ (Or.inl rfl), e 45 _ (Or.inr (Or.inl rfl)), e 46 _ (Or.inr (Or.inr rfl))]; exact h
theorem ToH_c {t : Nat} {M M' : mm} {H : hty} (h : ToH t M H) (e : ∀ j, M'.1 9 t j = M.1 9 t j) : ToH t M' H := by
  unfold ToH at h ⊢
  simp only [e]; exact h
theorem RCs_fi {A : sty} {M M' : mm} (h : RCs A M) (f : fi GC M M') : RCs A M' := by
  obtain ⟨h1, ⟨h2, fq, hf, h3, h4⟩, h5, h6, h7, h8, h9⟩ := h
  have e5 : ∀ n j, (n = 7 ∨ 9 ≤ n) → M'.1 5 n j = M.1 5 n j := fun n j hn => fi_I f (by unfold GC; omega)
  have e9 : ∀ k n j, (k = 9 ∨ k = 45 ∨ k = 46) → n ≠ 1 → M'.1 k n j = M.1 k n j := fun k n j hk hn => fi_I f (by unfold GC; omega)
  have e12 : ∀ j, M'.1 12 0 j = M.1 12 0 j := fun j => fi_I f (by unfold GC; omega)
  refine ⟨MoM_c h1 (fun j _ => e5 7 j (by omega)), ⟨by rw [e12]; exact h2, fq, hf, by rw [e12]; exact h3, fun i u hu => MoM_c (h4 i u hu) (fun j _ => e5 _ j (by omega))⟩, fun k hk => ⟨by rw [e12]; exact (h5 k hk).1, fun v hv => ?_⟩, ToL_c h6 (fun k j hk => e9 k 0 j hk (by omega)), ToH_c h7 (fun j => e9 9 0 j (Or.inl rfl) (by omega)), ?_, fun i x hx => ?_⟩
  · obtain ⟨a, b, c⟩ := (h5 k hk).2 v hv
    exact ⟨MoM_c a (fun j _ => e5 _ j (by omega)), ToL_c b (fun q j hq => e9 q _ j hq (by omega)), ToH_c c (fun j => e9 9 _ j (Or.inl rfl) (by omega))⟩
  · rw [fi_I f (by unfold GC; omega)]; exact h8
  · rw [fi_I f (by unfold GC; omega)]; exact h9 i x hx
/-- what was found for a moment is good while its stamp is the newest -/
def WhI (C : cty) (o N : Nat) (M : mm) : Prop :=
  (∃ S, S ≤ N ∧ M.1 11 0 6 = nI S ∧ ∀ j, j < 1024 → ∃ a, a ≤ S ∧ M.1 56 0 j = nI a) ∧
  (M.1 11 0 7 = 0 ∨ (M.1 11 0 7 = 1 ∧ M.2.2 11 0 1 = o ∧ ∃ sm : mty, MoM 0 M sm ∧ (MG C sm (100 * N) ∧ MS C sm) ∧ M.1 11 0 8 = looseS C sm ∧ ∀ j, j < 1024 → M.1 56 0 j = M.1 11 0 6 → M.1 55 0 j = fallS C (sm.1, sm.2.1 ||| nI j, sm.2.2.1, sm.2.2.2) sm.2.2.2))
def RC (A : sty) (N : Nat) (M : mm) : Prop :=
  ∃ o d, ((o = 0 ∧ d = 1) ∨ (o = 1 ∧ d = 0)) ∧ M.2.2 12 0 6 = o ∧ M.2.2 12 0 7 = d ∧ RCs A M ∧ CS (aC A) o M ∧ WhI (aC A) o N M
/-! the reference's memory -/
def LiM (r : Nat) (M : mm) (L : lty) : Prop := M.1 94 0 r = nI L.length ∧ ∀ i e, L[i]? = some e → M.1 95 0 (40 * r + i) = e.1 ∧ (e.1 ≠ 3 → M.1 96 0 (40 * r + i) = e.2)
def HeM (r : Nat) (M : mm) (H : hty) : Prop := M.1 97 0 r = nI H.length ∧ ∀ i e, H[i]? = some e → M.1 98 0 (10 * r + i) = nI e.1 ∧ M.1 99 0 (10 * r + i) = if e.2 then 1 else 0
def RwM (k i : Nat) (M : mm) (mo : mty) : Prop := M.1 k 0 i = mo.1 ∧ M.1 k 0 (i + 1) = mo.2.1 ∧ M.1 k 0 (i + 2) = mo.2.2.1 ∧ M.1 k 0 (i + 3) = mo.2.2.2
def TpM (M : mm) (T : List Int32) : Prop := M.1 13 0 1 = nI T.length ∧ ∀ i x, T[i]? = some x → M.1 63 0 i = x
def UnM (M : mm) (U : List mty) : Prop := M.1 13 0 54 = nI U.length ∧ ∀ i u, U[i]? = some u → RwM 103 (4 * i) M u
def MkM (M : mm) (K : Nat → Option (mty × lty × hty)) : Prop := ∀ k, k < 4 → M.1 104 0 k = (if (K k).isSome then 1 else 0) ∧ ∀ v, K k = some v → RwM 102 (4 * k) M v.1 ∧ LiM (1 + k) M v.2.1 ∧ HeM (1 + k) M v.2.2
/-- how many lean, how many clash -/
def leansN (C : cty) : Nat := (List.range (cO C)).countP (fun x => decide (nI x < cF C 6 x))
def clashN (C : cty) : Nat := ((List.range (cO C)).map (fun x => (List.range 10).countP (fun y => decide (x ≤ y) && bt (cF C 7 x) y))).sum
def RM (A : sty) (M : mm) : Prop :=
  RMo (aC A) (aM A) M ∧ (M.1 64 0 4 = nI (leansN (aC A)) ∧ M.1 64 0 5 = nI (clashN (aC A))) ∧ UnM M (aU A) ∧ MkM M (aK A) ∧ LiM 0 M (aL A) ∧ HeM 0 M (aH A) ∧ TpM M (aT A)
/-- cells of the reference on which none of this rests (the first of 105 apart) -/
def GM : Nat → Nat → Nat → Prop := fun k n i => (k = 13 ∧ i ≠ 1 ∧ i ≠ 54) ∨ (82 ≤ k ∧ k ≤ 93) ∨ k = 101 ∨ (k = 105 ∧ i ≠ 0) ∨ (106 ≤ k) ∨ (k ≠ 13 ∧ k < 63)
theorem RwM_c {k i : Nat} {M M' : mm} {mo : mty} (h : RwM k i M mo) (e : ∀ j, M'.1 k 0 j = M.1 k 0 j) : RwM k i M' mo := by
  unfold RwM at h ⊢
  simp only [e]; exact h
theorem LiM_c {r : Nat} {M M' : mm} {L : lty} (h : LiM r M L) (e : ∀ k j, k = 94 ∨ k = 95 ∨ k = 96 → M'.1 k 0 j = M.1 k 0 j) : LiM r M' L := by
  unfold LiM at h ⊢
  simp only [e 94 _ (Or.inl rfl), e 95 _ (Or.inr (Or.inl rfl)), e 96 _ (Or.inr (Or.inr rfl))]; exact h
theorem HeM_c {r : Nat} {M M' : mm} {H : hty} (h : HeM r M H) (e : ∀ k j, k = 97 ∨ k = 98 ∨ k = 99 → M'.1 k 0 j = M.1 k 0 j) : HeM r M' H := by
  unfold HeM at h ⊢
  simp only [e 97 _ (Or.inl rfl), e 98 _ (Or.inr (Or.inl rfl)), e 99 _ (Or.inr (Or.inr rfl))]; exact h
/-- the parts of RM that deeds leave as they were -/
def RMs (A : sty) (M : mm) : Prop := (M.1 64 0 4 = nI (leansN (aC A)) ∧ M.1 64 0 5 = nI (clashN (aC A))) ∧ UnM M (aU A) ∧ MkM M (aK A) ∧ LiM 0 M (aL A) ∧ HeM 0 M (aH A) ∧ TpM M (aT A)
theorem RMs_fi {A : sty} {M M' : mm} {P : Nat → Nat → Nat → Prop} (h : RMs A M) (f : fi P M M') (hP : ∀ k n i, P k n i → GM k n i ∨ k = 100 ∨ k = 105) : RMs A M' := by
  obtain ⟨⟨h1, h2⟩, ⟨h3, h4⟩, h5, h6, h7, h8, h9⟩ := h
  have e : ∀ k j, (64 ≤ k ∧ k ≤ 81) ∨ (94 ≤ k ∧ k ≤ 99) ∨ k = 63 ∨ (102 ≤ k ∧ k ≤ 104) → M'.1 k 0 j = M.1 k 0 j := fun k j hk => fi_I f (fun q => by have := hP _ _ _ q; unfold GM at this; omega)
  have e13 : ∀ j, j = 1 ∨ j = 54 → M'.1 13 0 j = M.1 13 0 j := fun j hj => fi_I f (fun q => by have := hP _ _ _ q; unfold GM at this; omega)
  refine ⟨⟨by rw [e 64 4 (by omega)]; exact h1, by rw [e 64 5 (by omega)]; exact h2⟩, ⟨by rw [e13 54 (by omega)]; exact h3, fun i u hu => RwM_c (h4 i u hu) (fun j => e 103 j (by omega))⟩, fun k hk => ⟨by rw [e 104 k (by omega)]; exact (h5 k hk).1, fun v hv => ?_⟩, LiM_c h6 (fun k j hk => e k j (by omega)), HeM_c h7 (fun k j hk => e k j (by omega)), ?_, fun i x hx => ?_⟩
  · obtain ⟨a, b, c⟩ := (h5 k hk).2 v hv
    exact ⟨RwM_c a (fun j => e 102 j (by omega)), LiM_c b (fun k j hk => e k j (by omega)), HeM_c c (fun k j hk => e k j (by omega))⟩
  · rw [e13 1 (by omega)]; exact h8
  · rw [e 63 i (by omega)]; exact h9 i x hx
theorem RM_iff {A : sty} {M : mm} : RM A M ↔ RMo (aC A) (aM A) M ∧ RMs A M := Iff.rfl
/-- a call of the one leaves the cells of the other -/
def FrC (M M' : mm) : Prop := (∀ n i, M'.2.2 12 n i = M.2.2 12 n i) ∧ ∀ k n i, (k = 13 ∨ 63 ≤ k ∨ k = 20 ∨ k = 24 ∨ k = 30 ∨ k = 41) → M'.1 k n i = M.1 k n i ∧ M'.2.1 k n i = M.2.1 k n i
def FrM (M M' : mm) : Prop := M'.2.2 = M.2.2 ∧ ∀ k n i, ((k ≠ 13 ∧ k < 63) ∨ (65 ≤ k ∧ k ≤ 67)) → M'.1 k n i = M.1 k n i ∧ M'.2.1 k n i = M.2.1 k n i
theorem FrC_fi {P : Nat → Nat → Nat → Prop} {M M' : mm} (f : fi P M M') (hP : ∀ k n i, P k n i → k ≠ 13 ∧ k < 63 ∧ k ≠ 20 ∧ k ≠ 24 ∧ k ≠ 30 ∧ k ≠ 41) : FrC M M' := ⟨fun n i => by rw [f.1], fun k n i hk => f.2 k n i (fun q => by have := hP _ _ _ q; omega)⟩
theorem FrM_fi {P : Nat → Nat → Nat → Prop} {M M' : mm} (f : fi P M M') (hP : ∀ k n i, P k n i → (k = 13 ∨ 63 ≤ k) ∧ ¬ (65 ≤ k ∧ k ≤ 67)) : FrM M M' := ⟨f.1, fun k n i hk => f.2 k n i (fun q => by have := hP _ _ _ q; omega)⟩
