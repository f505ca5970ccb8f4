/-! the ageing law as it is told, from the left: a frame for each not and each bracket that is begun: (1: a not), what and and or, what < and =, what + and -, what * holds -/
abbrev wfr : Type := Int32 × Option (Int32 × Int32) × Option (Int32 × Int32) × Option (Int32 × Int32) × Option Int32
abbrev ast : Type := List wfr × Option Int32
def fresh0 (n : Int32) : wfr := (n, none, none, none, none)
def tvV (f : wfr) (v : Int32) : Int32 := match f.2.2.2.2 with | none => v | some t => t * v
def svV (f : wfr) (v : Int32) : Int32 := match f.2.2.2.1 with | none => tvV f v | some p => if p.2 = 21 then p.1 - tvV f v else p.1 + tvV f v
def agV (f : wfr) (v : Int32) : Int32 := match f.2.2.1 with | none => svV f v | some p => if p.2 = 24 then (if svV f v ≤ p.1 then 0 else 1) else (if p.1 = svV f v then 1 else 0)
def kpV (f : wfr) (v : Int32) : Int32 := match f.2.1 with | none => agV f v | some p => if p.2 = 26 then (if p.1 = 0 then 0 else if agV f v = 0 then 0 else 1) else (if p.1 = 0 then (if agV f v = 0 then 0 else 1) else 1)
def notV (v : Int32) : Int32 := if v = 0 then 1 else 0
def aPart : List wfr → Int32 → Option ast
  | [], _ => none
  | [f], v => some ([f], some v)
  | f :: g :: r, v => if f.1 = 1 then aPart (g :: r) (notV v) else some (f :: g :: r, some v)
def isLeaf (c : Int32) : Prop := c = 1 ∨ c = 2 ∨ c = 3 ∨ c = 4 ∨ 100 ≤ c
def wleaf (b y k a c : Int32) : Int32 := if c < 100 then (if c = 1 then b else if c = 2 then y else if c = 3 then k else a) else c - 100
def astep (b y k a : Int32) (s : ast) (c : Int32) : Option ast := match s with
  | (f :: r, none) => if c = 28 ∨ c = 30 then (if r.length < 5 then some (fresh0 (if c = 30 then 1 else 0) :: f :: r, none) else none) else if c = 1 ∨ c = 2 ∨ c = 3 ∨ c = 4 ∨ 100 ≤ c then aPart (f :: r) (wleaf b y k a c) else none
  | (f :: r, some v) =>
    if c = 20 ∨ c = 21 then some ((f.1, f.2.1, f.2.2.1, some (svV f v, c), none) :: r, none)
    else if c = 22 then some ((f.1, f.2.1, f.2.2.1, f.2.2.2.1, some (tvV f v)) :: r, none)
    else if c = 24 ∨ c = 25 then (if f.2.2.1 = none then some ((f.1, f.2.1, some (svV f v, c), none, none) :: r, none) else none)
    else if c = 26 ∨ c = 27 then some ((f.1, some (kpV f v, c), none, none, none) :: r, none)
    else if c = 29 then aPart r (kpV f v)
    else none
  | ([], _) => none
def aev (b y k a : Int32) : List Int32 → ast → Option ast
  | [], s => some s
  | c :: cs, s => match astep b y k a s c with | none => none | some s' => aev b y k a cs s'
theorem aev_app {b y k a : Int32} : ∀ (cs : List Int32) (c : Int32) (s : ast), aev b y k a (cs ++ [c]) s = match aev b y k a cs s with | none => none | some s' => astep b y k a s' c := by
  intro cs
  induction cs with
  | nil => intro c s; simp only [List.nil_append, aev]; cases astep b y k a s c <;> rfl
  | cons d cs ih =>
    intro c s
    simp only [List.cons_append, aev]
    cases astep b y k a s d with
    | none => rfl
    | some s' => exact ih c s'
def ast0 : ast := ([fresh0 0], none)
/-- the frames in the memory -/
def WF1 (M : mm) (j : Nat) (f : wfr) : Prop :=
  (0 < j → M.1 92 0 j = f.1) ∧ (match f.2.1 with | none => M.1 85 0 j = 0 | some p => M.1 84 0 j = p.1 ∧ M.1 85 0 j = p.2 ∧ (p.2 = 26 ∨ p.2 = 27)) ∧ (match f.2.2.1 with | none => M.1 87 0 j = 0 | some p => M.1 86 0 j = p.1 ∧ M.1 87 0 j = p.2 ∧ (p.2 = 24 ∨ p.2 = 25)) ∧ (match f.2.2.2.1 with | none => M.1 88 0 j = 0 ∧ M.1 89 0 j = 20 | some p => M.1 88 0 j = p.1 ∧ M.1 89 0 j = p.2 ∧ (p.2 = 20 ∨ p.2 = 21))
def TV1 (M : mm) (j : Nat) (f : wfr) : Prop := match f.2.2.2.2 with | none => M.1 91 0 j = 0 | some t => M.1 91 0 j ≠ 0 ∧ M.1 90 0 j = t
def WMs (M : mm) : List wfr → Prop
  | [] => True
  | f :: r => WF1 M r.length f ∧ TV1 M r.length f ∧ WMs M r
def WMt (M : mm) : ast → Prop
  | (fs, none) => WMs M fs
  | ([], some _) => False
  | (f :: r, some v) => WF1 M r.length f ∧ M.1 90 0 r.length = tvV f v ∧ WMs M r
def PA (d : Nat) : mm → mm → Prop := fun M M' => M'.2.2 = M.2.2 ∧ M'.2.1 = M.2.1 ∧ ∀ k n i, (k < 84 ∨ 92 < k ∨ i < d) → M'.1 k n i = M.1 k n i
theorem PA_rf {d : Nat} {M : mm} : PA d M M := ⟨rfl, rfl, fun _ _ _ _ => rfl⟩
theorem PA_tr {d : Nat} {M M' M'' : mm} (h : PA d M M') (k : PA d M' M'') : PA d M M'' := ⟨k.1.trans h.1, k.2.1.trans h.2.1, fun a b c q => (k.2.2 a b c q).trans (h.2.2 a b c q)⟩
theorem PA_le {d e : Nat} {M M' : mm} (h : PA d M M') (he : e ≤ d) : PA e M M' := ⟨h.1, h.2.1, fun a b c q => h.2.2 a b c (by omega)⟩
theorem PA_sI {d : Nat} {M M' : mm} {k i : Nat} {v : Int32} (h : PA d M M') (hk : 84 ≤ k ∧ k ≤ 92) (hi : d ≤ i) : PA d M (sI M' k 0 i v) := ⟨h.1, h.2.1, fun a b c q => by rw [rII, if_neg (by omega)]; exact h.2.2 a b c q⟩
theorem WF1_PA {M M' : mm} {j d : Nat} {f : wfr} (h : WF1 M j f) (p : PA d M M') (hj : j < d) : WF1 M' j f := by
  have e : ∀ k, M'.1 k 0 j = M.1 k 0 j := fun k => p.2.2 k 0 j (by omega)
  unfold WF1 at h ⊢
  simp only [e]
  exact h
theorem TV1_PA {M M' : mm} {j d : Nat} {f : wfr} (h : TV1 M j f) (p : PA d M M') (hj : j < d) : TV1 M' j f := by
  have e : ∀ k, M'.1 k 0 j = M.1 k 0 j := fun k => p.2.2 k 0 j (by omega)
  unfold TV1 at h ⊢
  simp only [e]
  exact h
theorem WMs_PA {M M' : mm} {d : Nat} : ∀ {fs : List wfr}, WMs M fs → PA d M M' → fs.length ≤ d → WMs M' fs := by
  intro fs
  induction fs with
  | nil => intro _ _ _; trivial
  | cons f r ih =>
    intro h p hl
    simp only [List.length_cons] at hl
    exact ⟨WF1_PA h.1 p (by omega), TV1_PA h.2.1 p (by omega), ih h.2.2 p (by omega)⟩
theorem opens_ok {F : Nat} {M : mm} {j : Nat} (hj : j < 7) : ok (m_X12_opens F (nI j) M) (fun M' => PA j M M' ∧ M'.1 85 0 j = 0 ∧ M'.1 87 0 j = 0 ∧ M'.1 88 0 j = 0 ∧ M'.1 89 0 j = 20 ∧ M'.1 91 0 j = 0 ∧ M'.1 92 0 j = M.1 92 0 j) := by
  unfold m_X12_opens
  simp only [ok_gi, ok_nm, ok_some, nI_clamp (show j < 2 ^ 31 by omega)]
  refine ⟨vp_in_nI hj (by decide), vp_in_nI hj (by decide), vp_in_nI hj (by decide), vp_in_nI hj (by decide), vp_in_nI hj (by decide), ?_, ?_⟩
  · exact PA_sI (PA_sI (PA_sI (PA_sI (PA_sI PA_rf (by omega) (Nat.le_refl _)) (by omega) (Nat.le_refl _)) (by omega) (Nat.le_refl _)) (by omega) (Nat.le_refl _)) (by omega) (Nat.le_refl _)
  · simp [rII]
theorem sums_ok {F : Nat} {M : mm} {f : wfr} {r : List wfr} {v : Int32} (hj : r.length < 7) (h : WF1 M r.length f) (ht : M.1 90 0 r.length = tvV f v) : ok (m_X12_sums F (nI r.length) M) (fun M' => PA r.length M M' ∧ M'.1 88 0 r.length = svV f v ∧ M'.1 91 0 r.length = 0 ∧ ∀ k, k ≠ 88 → k ≠ 91 → M'.1 k 0 r.length = M.1 k 0 r.length) := by
  unfold m_X12_sums
  simp only [ok_gi, ok_nm, ok_some, ok_bd, ok_ite, nI_clamp (show r.length < 2 ^ 31 by omega)]
  have hin := vp_in_nI hj (show 7 < 2 ^ 31 by decide)
  have h4 := h.2.2.2
  have fin : ∀ x, x = svV f v → PA r.length M (sI (sI M 88 0 r.length x) 91 0 r.length 0) ∧ (sI (sI M 88 0 r.length x) 91 0 r.length 0).1 88 0 r.length = svV f v ∧ (sI (sI M 88 0 r.length x) 91 0 r.length 0).1 91 0 r.length = 0 ∧ ∀ k, k ≠ 88 → k ≠ 91 → (sI (sI M 88 0 r.length x) 91 0 r.length 0).1 k 0 r.length = M.1 k 0 r.length := by
    intro x hx
    refine ⟨PA_sI (PA_sI PA_rf (by omega) (Nat.le_refl _)) (by omega) (Nat.le_refl _), ?_, ?_, fun k h1 h2 => ?_⟩
    · simp [rII, hx]
    · simp [rII]
    · simp [rII, h1, h2]
  refine ⟨hin, fun hc => ⟨hin, hin, hin, hin, fin _ ?_⟩, fun hc => ⟨hin, hin, hin, hin, fin _ ?_⟩⟩
  · rw [ht]
    unfold svV
    cases e : f.2.2.2.1 with
    | none => rw [e] at h4; rw [h4.2] at hc; exact absurd hc (by decide)
    | some p => rw [e] at h4; simp only; rw [← h4.2.1, if_pos hc, h4.1]
  · rw [ht]
    unfold svV
    cases e : f.2.2.2.1 with
    | none => rw [e] at h4; simp only; rw [h4.1, Int32.zero_add]
    | some p => rw [e] at h4; simp only; rw [← h4.2.1, if_neg hc, h4.1]
theorem tests_ok {F : Nat} {M : mm} {f : wfr} {r : List wfr} {v : Int32} (hj : r.length < 7) (h : WF1 M r.length f) (ht : M.1 90 0 r.length = tvV f v) : ok (m_X12_tests F (nI r.length) M) (fun M' => PA r.length M M' ∧ M'.1 84 0 r.length = kpV f v ∧ M'.1 87 0 r.length = 0 ∧ M'.1 88 0 r.length = 0 ∧ M'.1 89 0 r.length = 20 ∧ M'.1 91 0 r.length = 0 ∧ M'.1 92 0 r.length = M.1 92 0 r.length) := by
  unfold m_X12_tests
  rw [ok_cv]
  refine ok_mono (sums_ok hj h ht) (fun M1 h1 => ?_)
  obtain ⟨p1, s1, s2, s3⟩ := h1
  have hin := vp_in_nI hj (show 7 < 2 ^ 31 by decide)
  obtain ⟨-, hk, ha, -⟩ := h
  rw [ok_gi]
  refine ⟨hin, ?_⟩
  rw [ok_nm, ok_gi, nI_clamp (show r.length < 2 ^ 31 by omega), s1, s3 84 (by decide) (by decide), s3 85 (by decide) (by decide), s3 86 (by decide) (by decide), s3 87 (by decide) (by decide)]
  refine ⟨hin, ?_⟩
  rw [ok_bd]
  -- behind the first question
  refine ok_mono (Q := fun x => x = match f.2.2.1 with | none => svV f v | some p => if p.2 = 24 then (if svV f v ≤ p.1 then 0 else 1) else svV f v) ?_ (fun x4 h4 => ?_)
  · cases e : f.2.2.1 with
    | none =>
      rw [e] at ha
      rw [ha, if_neg (by decide), ok_some]
    | some p =>
      rw [e] at ha
      simp only at ha ⊢
      rw [ha.2.1, ha.1]
      simp only [ok_ite, ok_gi, ok_bd, ok_some]
      exact ⟨fun q => ⟨hin, hin, fun q2 => by rw [if_pos q, if_pos q2], fun q2 => by rw [if_pos q, if_neg q2]⟩, fun q => by rw [if_neg q]⟩
  · rw [ok_gi]
    refine ⟨hin, ?_⟩
    rw [ok_bd]
    refine ok_mono (Q := fun x => x = agV f v) ?_ (fun x6 h6 => ?_)
    · unfold agV
      cases e : f.2.2.1 with
      | none =>
        rw [e] at ha h4
        rw [ha, if_neg (by decide), ok_some, h4]
      | some p =>
        rw [e] at ha h4
        simp only at ha h4 ⊢
        rw [ha.2.1, ha.1]
        simp only [ok_ite, ok_gi, ok_bd, ok_some]
        rcases ha.2.2 with q | q
        · rw [if_pos q] at h4 ⊢
          exact ⟨fun q2 => by rw [q] at q2; exact absurd q2 (by decide), fun _ => h4⟩
        · refine ⟨fun _ => ⟨hin, hin, fun q2 => ?_, fun q2 => ?_⟩, fun q2 => absurd q q2⟩
          · rw [q, if_neg (by decide), if_pos q2]
          · rw [q, if_neg (by decide), if_neg q2]
    · rw [ok_gi]
      refine ⟨hin, ?_⟩
      rw [ok_bd]
      refine ok_mono (Q := fun x => x = match f.2.1 with | none => agV f v | some p => if p.2 = 26 then (if p.1 = 0 then 0 else if agV f v = 0 then 0 else 1) else agV f v) ?_ (fun x8 h8 => ?_)
      · subst h6
        cases e : f.2.1 with
        | none =>
          rw [e] at hk
          rw [hk, if_neg (by decide), ok_some]
        | some p =>
          rw [e] at hk
          simp only at hk ⊢
          rw [hk.2.1, hk.1]
          simp only [ok_ite, ok_gi, ok_bd, ok_some, ok_nm]
          exact ⟨fun q => ⟨hin, fun q2 => by rw [if_pos q, if_pos q2], fun q2 => ⟨fun q3 => by rw [if_pos q, if_neg q2, if_pos q3], fun q3 => by rw [if_pos q, if_neg q2, if_neg q3]⟩⟩, fun q => by rw [if_neg q]⟩
      · rw [ok_gi]
        refine ⟨hin, ?_⟩
        rw [ok_bd]
        refine ok_mono (Q := fun x => x = kpV f v) ?_ (fun x10 h10 => ?_)
        · unfold kpV
          cases e : f.2.1 with
          | none =>
            rw [e] at hk h8
            rw [hk, if_neg (by decide), ok_some, h8]
          | some p =>
            rw [e] at hk h8
            simp only at hk h8 ⊢
            rw [hk.2.1, hk.1]
            simp only [ok_ite, ok_gi, ok_bd, ok_some, ok_nm]
            rcases hk.2.2 with q | q
            · rw [if_pos q] at h8 ⊢
              exact ⟨fun q2 => by rw [q] at q2; exact absurd q2 (by decide), fun _ => h8⟩
            · rw [q, if_neg (by decide)] at h8
              subst h8
              refine ⟨fun _ => ⟨hin, fun q2 => ⟨fun q3 => ?_, fun q3 => ?_⟩, fun q2 => ?_⟩, fun q2 => absurd q q2⟩
              · rw [q, if_neg (by decide), if_pos q2, if_pos q3]
              · rw [q, if_neg (by decide), if_pos q2, if_neg q3]
              · rw [q, if_neg (by decide), if_neg q2]
        · subst h10
          simp only [ok_gi, ok_nm, ok_some, nI_clamp (show r.length < 2 ^ 31 by omega)]
          refine ⟨hin, hin, hin, hin, PA_tr p1 (PA_sI (PA_sI (PA_sI (PA_sI PA_rf (by omega) (Nat.le_refl _)) (by omega) (Nat.le_refl _)) (by omega) (Nat.le_refl _)) (by omega) (Nat.le_refl _)), ?_⟩
          simp [rII, s2, s3 92 (by decide) (by decide)]
