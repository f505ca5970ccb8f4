/-! what rests on what; what stands -/
def rsa (b : Int32) (f : Nat → Int32) : Nat → Int32 → Int32
  | 0, x => x
  | t + 1, x => rsa b f t x ||| (if bt b t then f t else 0)
def rsN (oO oS : Nat → Int32) (up : Int32) : Nat → Nat → Int32
  | 0, _ => 0
  | n + 1, s => if s = n then rsa (oS n &&& up) (rsN oO oS up n) n (oO n) else rsN oO oS up n s
def rs (oO oS : Nat → Int32) (up : Int32) (s : Nat) : Int32 := rsN oO oS up (s + 1) s
theorem rsa_c {b b' : Int32} {f f' : Nat → Int32} {x : Int32} : ∀ n : Nat, (∀ t, t < n → bt b t = bt b' t ∧ (bt b t = true → f t = f' t)) → rsa b f n x = rsa b' f' n x := by
  intro n
  induction n with
  | zero => intro _; rfl
  | succ n ih =>
    intro h
    simp only [rsa]
    obtain ⟨h1, h2⟩ := h n (by omega)
    rw [ih (fun t ht => h t (by omega)), ← h1]
    cases e : bt b n
    · rfl
    · rw [h2 e]
theorem rsN_rs {oO oS : Nat → Int32} {up : Int32} {s : Nat} : ∀ n, s < n → rsN oO oS up n s = rs oO oS up s := by
  intro n
  induction n with
  | zero => intro h; omega
  | succ n ih =>
    intro h
    by_cases e : s = n
    · subst e; rfl
    · show (if s = n then _ else _) = _
      rw [if_neg e]; exact ih (by omega)
theorem rs_eq {oO oS : Nat → Int32} {up : Int32} {s : Nat} : rs oO oS up s = rsa (oS s &&& up) (rs oO oS up) s (oO s) := by
  show (if s = s then _ else _) = _
  rw [if_pos rfl]
  exact rsa_c s (fun t ht => ⟨rfl, fun _ => rsN_rs s ht⟩)
theorem rs_c {oO oS oO' oS' : Nat → Int32} {up up' : Int32} {n : Nat} (h1 : ∀ s, s < n → oO s = oO' s ∧ oS s = oS' s) (h2 : ∀ t, t < n → bt up t = bt up' t) : ∀ s, s < n → rs oO oS up s = rs oO' oS' up' s := by
  intro s
  induction s using Nat.strongRecOn with
  | _ s ih =>
    intro hs
    rw [rs_eq, rs_eq (oO := oO')]
    obtain ⟨a1, a2⟩ := h1 s hs
    rw [a1, a2]
    exact rsa_c s (fun t ht => ⟨by rw [b_and, b_and, h2 t (by omega)], fun _ => ih t ht (by omega)⟩)
theorem rsa_b {b : Int32} {f : Nat → Int32} {x : Int32} {i : Nat} : ∀ n : Nat, bt (rsa b f n x) i = true ↔ bt x i = true ∨ ∃ t, t < n ∧ bt b t = true ∧ bt (f t) i = true := by
  intro n
  induction n with
  | zero => simp [rsa]
  | succ n ih =>
    simp only [rsa, b_or, Bool.or_eq_true, ih]
    constructor
    · rintro ((h | ⟨t, a, b', c⟩) | h)
      · exact Or.inl h
      · exact Or.inr ⟨t, by omega, b', c⟩
      · cases e : bt b n
        · rw [e] at h; simp [b_0] at h
        · rw [e] at h; exact Or.inr ⟨n, by omega, e, by simpa using h⟩
    · rintro (h | ⟨t, a, b', c⟩)
      · exact Or.inl (Or.inl h)
      · rcases Nat.lt_succ_iff_lt_or_eq.mp a with a | a
        · exact Or.inl (Or.inr ⟨t, a, b', c⟩)
        · subst a; right; rw [b']; simpa using c
theorem rs_lt {oO oS : Nat → Int32} {up : Int32} {n m : Nat} (h : ∀ s, s < n → ∀ x, x < 32 → bt (oO s) x = true → x < m) : ∀ s, s < n → ∀ x, x < 32 → bt (rs oO oS up s) x = true → x < m := by
  intro s
  induction s using Nat.strongRecOn with
  | _ s ih =>
    intro hs x hx hb
    rw [rs_eq, rsa_b] at hb
    rcases hb with hb | ⟨t, a, -, c⟩
    · exact h s hs x hx hb
    · exact ih t a (by omega) x hx c
def rS (C : cty) (up : Int32) (s : Nat) : Int32 := rs (cF C 10) (cF C 11) up s
def rB (C : cty) (up : Int32) (s o : Nat) : Bool := decide (s < cS C) && bt (rS C up s) o
def wS (C : cty) (s : Nat) : Int := if s < cS C then (cF C 8 s).toInt else 0
def kS (C : cty) (mo : mty) (o : Nat) : Int := if o < cO C then (strS C mo o).toInt else 0
def upB (up : Int32) (n s : Nat) : Bool := bt up s && decide (s < n)
/-- those up below n stand together -/
def HallU (C : cty) (mo : mty) (up : Int32) (n : Nat) : Prop := Hall (wS C) (rB C up) (kS C mo) (upB up n)
theorem b_low : ∀ n, n < 32 → ∀ i, i < 32 → bt (((1 : Int32) <<< (nI n &&& 31)) - 1) i = decide (i < n) := by decide +kernel
def rst (up : Int32) (n : Nat) : Int32 := up &&& (((1 : Int32) <<< (nI n &&& 31)) - 1)
theorem rst_b {up : Int32} {n i : Nat} (hn : n < 32) (hi : i < 32) : bt (rst up n) i = (bt up i && decide (i < n)) := by
  unfold rst; rw [b_and, b_low n hn i hi]
noncomputable def fallN (C : cty) (mo : mty) (up : Int32) : Nat → Int32
  | 0 => 0
  | n + 1 => @ite _ (HallU C mo up (n + 1)) (Classical.propDecidable _) (rst up (n + 1)) (fallN C mo up n)
/-- FALL: those that stay up -/
noncomputable def fallS (C : cty) (mo : mty) (up : Int32) : Int32 := fallN C mo up 11
theorem fallN_t {C : cty} {mo : mty} {up : Int32} {n : Nat} (h : HallU C mo up (n + 1)) : fallN C mo up (n + 1) = rst up (n + 1) := if_pos h
theorem fallN_f {C : cty} {mo : mty} {up : Int32} {n : Nat} (h : ¬ HallU C mo up (n + 1)) : fallN C mo up (n + 1) = fallN C mo up n := if_neg h
theorem HallU_le {C : cty} {mo : mty} {up : Int32} {n m : Nat} (h : HallU C mo up n) (hm : m ≤ n) : HallU C mo up m :=
  hall_sub h (fun s q => by unfold upB at q ⊢; simp at q ⊢; exact ⟨q.1, by omega⟩)
theorem HallU_0 {C : cty} {mo : mty} {up : Int32} : HallU C mo up 0 := by
  intro X hX
  have hx : ∀ s, X s = false := fun s => by
    cases e : X s
    · rfl
    · have := hX s e; simp [upB] at this
  have h1 : wX (wS C) X = 0 := (sm_c (fun s _ => by rw [hx s]; rfl)).trans sm_0
  have h2 : cX (kS C mo) (nb (rB C up) X) = 0 := (sm_c (fun o _ => by
    have : nb (rB C up) X o = false := by
      cases e : nb (rB C up) X o
      · rfl
      · obtain ⟨s, -, q, -⟩ := nb_iff.mp e
        rw [hx s] at q; cases q
    rw [this]; rfl)).trans sm_0
  rw [h1, h2]; exact Int.le_refl _
theorem fallS_at {C : cty} {mo : mty} {up : Int32} {s : Nat} (hs : s < 11) (h1 : HallU C mo up s) (h2 : ¬ HallU C mo up (s + 1)) : fallS C mo up = rst up s := by
  have key : ∀ n, s ≤ n → n ≤ 11 → fallN C mo up n = fallN C mo up s := by
    intro n
    induction n with
    | zero => intro a _; have : s = 0 := by omega
              rw [this]
    | succ n ih =>
      intro a b
      by_cases e : s = n + 1
      · rw [e]
      · rw [fallN_f (fun q => h2 (HallU_le q (by omega)))]; exact ih (by omega) (by omega)
  unfold fallS
  rw [key 11 (by omega) (Nat.le_refl _)]
  cases s with
  | zero =>
    refine b_ext (fun i hi => ?_)
    rw [rst_b (by omega) hi]
    show bt 0 i = _
    rw [b_0]; simp
  | succ s => exact fallN_t h1
theorem fallS_up {C : cty} {mo : mty} {up : Int32} (hb : ∀ s, s < 32 → bt up s = true → s < 11) (h : HallU C mo up 11) : fallS C mo up = up := by
  unfold fallS
  rw [fallN_t h]
  refine b_ext (fun i hi => ?_)
  rw [rst_b (by omega) hi]
  cases e : bt up i
  · rfl
  · simp [hb i hi e]
/-! the wall: what rests on what -/
theorem settle_ok {F : Nat} (hF : 2000 < F) {o : Nat} {C : cty} {M : mm} (hw : WF C) (h : CV0 C o M) (up : Int32) :
    ok (m_X9_settle F o up M) (fun M' => fr (fun k n => k = 47) M M' ∧ ∀ s, s < cS C → M'.1 47 0 s = rS C up s) := by
  have hS := hw.1.2.2.1
  obtain ⟨⟨h1, h2, h3, -⟩, -, -, h4, -⟩ := h
  unfold m_X9_settle
  rw [ok_bd]
  refine ok_for (cS C) (fun i z => z.1 = nI i ∧ fr (fun k n => k = 47) M z.2 ∧ ∀ s, s < i → z.2.1 47 0 s = rS C up s) 0 (by omega) (by omega) ⟨rfl, fr_rf, fun s hs => by omega⟩ ?_
  rintro i ⟨x1, M2⟩ hi ⟨e1, hf, hr⟩
  dsimp only at e1 hf hr
  subst e1
  have e13 : M2.1 1 o 13 = nI (cS C) := (fr_I hf (by omega) 13).trans h3
  simp only [b_X9_settle_1, b_X9_settle_1c, e13, ok_ite, nI_leI (show cS C < 2 ^ 31 by omega) (show i < 2 ^ 31 by omega)]
  refine ⟨fun hc => ?_, fun hc => ?_⟩
  · rw [ok_some]
    have : i = cS C := by omega
    subst this
    exact ok_some.mpr ⟨hf, hr⟩
  · obtain ⟨-, -, g3, g4⟩ := h4 i (by omega)
    have e33 : M2.1 33 o i = cF C 10 i := (fr_I hf (by omega) i).trans g3
    have e34 : M2.1 34 o i = cF C 11 i := (fr_I hf (by omega) i).trans g4
    simp only [ok_gi, ok_nm, ok_bd, nI_clamp (show i < 2 ^ 31 by omega), e33, e34]
    refine ⟨vp_in_nI (by omega) (by decide), vp_in_nI (by omega) (by decide), ?_⟩
    refine ok_mono (Q := fun v => v = rS C up i) ?_ (fun v hv => ?_)
    · refine ok_for i (fun t z => z.2 = nI t ∧ z.1 = rsa (cF C 11 i &&& up) (rS C up) t (cF C 10 i)) 0 (by omega) (by omega) ⟨rfl, rfl⟩ ?_
      rintro t ⟨x5, x6⟩ ht ⟨a1, a2⟩
      dsimp only at a1 a2
      subst a1; subst a2
      simp only [b_X9_settle_2, b_X9_settle_2c, ok_ite, nI_leI (show i < 2 ^ 31 by omega) (show t < 2 ^ 31 by omega)]
      refine ⟨fun hc => ?_, fun hc => ?_⟩
      · have : t = i := by omega
        subst this
        rw [ok_some]
        exact rs_eq.symm
      · rw [ok_bd]
        refine ok_mono (Q := fun v => v = if bt (cF C 11 i &&& up) t then rS C up t else 0) ?_ (fun v hv => ?_)
        · rw [ok_ite, b_bit0 _ (show t < 32 by omega)]
          refine ⟨fun q => ok_some.mpr (by rw [q]; rfl), fun q => ?_⟩
          rw [ok_gi, ok_some, nI_clamp (by omega), hr t (by omega)]
          refine ⟨vp_in_nI (by omega) (by decide), ?_⟩
          cases e : bt (cF C 11 i &&& up) t
          · exact absurd e q
          · rfl
        · subst hv
          rw [ok_nm, ok_some]
          exact ⟨by omega, nI_1 t, rfl⟩
    · subst hv
      simp only [ok_gi, ok_nm, ok_some]
      refine ⟨vp_in_nI (by omega) (by decide), by omega, nI_1 i, fr_sI hf rfl, fun s hs => ?_⟩
      simp only [rII]
      by_cases e : s = i
      · subst e; simp
      · simp [e]; exact hr s (by omega)
