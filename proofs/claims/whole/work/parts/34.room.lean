/-! the wall: what is reached -/
def wL (M : mm) (t : Nat) : Bool := bt (M.1 10 0 5) t
def rl (M : mm) (t o : Nat) : Int := (M.1 49 0 (t * 10 + o)).toInt
def lfM (M : mm) (o : Nat) : Int := (M.1 48 0 o).toInt
def P3 : Nat → Nat → Prop := fun k _ => k = 52 ∨ k = 53 ∨ k = 54
def BI (M0 : mm) (s : Nat) (M : mm) (q : List Nat) (so ss : Int32) : Prop :=
  QI M q ∧ (∀ o, o < 10 → (bt so o = true ↔ o ∈ q)) ∧ bt ss s = true ∧ (∀ t, t < 11 → bt ss t = true → wL M0 t = true) ∧ (∀ t, t < 11 → bt ss t = true → ∀ o, o < 10 → wR M0 t o = true → o ∈ q) ∧ (∀ o, o ∈ q → ∃ t, t < 11 ∧ M.1 53 0 o = nI t ∧ bt ss t = true ∧ wR M0 t o = true) ∧ (∀ j o t : Nat, q[j]? = some o → t < 11 → M.1 53 0 o = nI t → t ≠ s → ∃ i o' : Nat, i < j ∧ q[i]? = some o' ∧ M.1 54 0 t = nI o' ∧ 0 < rl M0 t o') ∧ fr P3 M0 M
theorem ix10 (t o : Nat) : nI t * 10 + nI o = nI (t * 10 + o) := by
  show nI t * nI 10 + nI o = _
  rw [pk_mul, nI_add]
theorem getq_app {q p : List Nat} {i o : Nat} (h : q[i]? = some o) : (q ++ p)[i]? = some o := by
  have h1 := (List.getElem?_eq_some_iff.mp h).1
  rw [List.getElem?_append_left h1]; exact h
theorem BI_add {M0 M M' : mm} {s t h oc : Nat} {q p : List Nat} {so ss : Int32} (B : BI M0 s M q so ss) (ht : t < 11) (hns : bt ss t = false) (hl : wL M0 t = true) (hp : 0 < rl M0 t oc) (hq : q[h]? = some oc)
    (hQ : QI M' (q ++ p)) (hpm : ∀ o, o ∈ p ↔ o < 10 ∧ wR M0 t o = true ∧ o ∉ q) (hb : ∀ o, o ∈ p → M'.1 53 0 o = nI t) (hb' : ∀ o, o ∉ p → M'.1 53 0 o = M.1 53 0 o) (h54 : M'.1 54 0 t = nI oc) (h54' : ∀ t', t' ≠ t → M'.1 54 0 t' = M.1 54 0 t') (hf : fr P3 M0 M') :
    BI M0 s M' (q ++ p) (so ||| M0.1 47 0 t) (ss ||| ((1 : Int32) <<< (nI t &&& 31))) := by
  obtain ⟨b1, b2, b3, b4, b5, b6, b7, b8⟩ := B
  have hss : ∀ t', t' < 32 → (bt (ss ||| ((1 : Int32) <<< (nI t &&& 31))) t' = true ↔ bt ss t' = true ∨ t' = t) := by
    intro t' h'
    rw [b_or, b_one (by omega) h', Bool.or_eq_true, decide_eq_true_iff]
  have hlt32 : ∀ {x : Int32} {i : Nat}, bt x i = true → i < 32 := by
    intro x i h
    rcases Nat.lt_or_ge i 32 with h1 | h1
    · exact h1
    · rw [b_big h1] at h; cases h
  have hdis : ∀ o, o ∈ q → o ∉ p := fun o h1 h2 => ((hpm o).mp h2).2.2 h1
  refine ⟨hQ, fun o ho => ?_, ?_, fun t' h1 h2 => ?_, fun t' h1 h2 o ho hr => ?_, fun o ho => ?_, fun j o t' hj ht' h53 hts => ?_, hf⟩
  · rw [b_or, Bool.or_eq_true, b2 o ho, List.mem_append, hpm o]
    constructor
    · rintro (h | h)
      · exact Or.inl h
      · by_cases e : o ∈ q
        · exact Or.inl e
        · exact Or.inr ⟨ho, h, e⟩
    · rintro (h | h)
      · exact Or.inl h
      · exact Or.inr h.2.1
  · rw [b_or, b3]; rfl
  · rcases (hss t' (by omega)).mp h2 with h | h
    · exact b4 t' h1 h
    · rw [h]; exact hl
  · rw [List.mem_append]
    rcases (hss t' (by omega)).mp h2 with h | h
    · exact Or.inl (b5 t' h1 h o ho hr)
    · subst h
      by_cases e : o ∈ q
      · exact Or.inl e
      · exact Or.inr ((hpm o).mpr ⟨ho, hr, e⟩)
  · rcases List.mem_append.mp ho with h | h
    · obtain ⟨t', a, b, c, d⟩ := b6 o h
      exact ⟨t', a, by rw [hb' o (hdis o h)]; exact b, (hss t' (by omega)).mpr (Or.inl c), d⟩
    · exact ⟨t, ht, hb o h, (hss t (by omega)).mpr (Or.inr rfl), ((hpm o).mp h).2.1⟩
  · rw [List.getElem?_append] at hj
    by_cases e : j < q.length
    · rw [if_pos e] at hj
      have hoq : o ∈ q := List.mem_of_getElem? hj
      rw [hb' o (hdis o hoq)] at h53
      obtain ⟨i, o', a, b, c, d⟩ := b7 j o t' hj ht' h53 hts
      obtain ⟨t2, a2, b2', c2, d2⟩ := b6 o hoq
      have : t2 = t' := by
        rw [h53] at b2'
        exact ((nI_eq (by omega) (by omega)).mp b2').symm
      subst this
      have hne : t2 ≠ t := fun e => by rw [e, hns] at c2; cases c2
      exact ⟨i, o', a, getq_app b, by rw [h54' t2 hne]; exact c, d⟩
    · rw [if_neg e] at hj
      have hop : o ∈ p := List.mem_of_getElem? hj
      rw [hb o hop] at h53
      have : t = t' := (nI_eq (by omega) (by omega)).mp h53
      subst this
      have hh := (List.getElem?_eq_some_iff.mp hq).1
      exact ⟨h, oc, by omega, getq_app hq, h54, hp⟩
/-- none of those reached can bear more: all that lies there lies there from those reached -/
def Shut (M0 : mm) (ss : Int32) (o : Nat) : Prop := lfM M0 o ≤ 0 ∧ ∀ t, t < 11 → wL M0 t = true → 0 < rl M0 t o → bt ss t = true
theorem room1_ok {F : Nat} (hF : 1000 < F) {M0 M : mm} {s oc h : Nat} {q : List Nat} {so ss : Int32} (B : BI M0 s M q so ss) (hq : q[h]? = some oc) :
    ok (lp (b_X9_makeRoom_2 F (nI oc)) F (nI q.length, so, ss, (0 : Int32), M)) (fun r => ∃ q' : List Nat, r.1 = nI q'.length ∧ BI M0 s r.2.2.2 q' r.2.1 r.2.2.1 ∧ (∀ i o : Nat, q[i]? = some o → q'[i]? = some o) ∧ (∀ t, t < 11 → wL M0 t = true → 0 < rl M0 t oc → bt r.2.2.1 t = true) ∧ ∀ t, bt ss t = true → bt r.2.2.1 t = true) := by
  have hoc : oc < 10 := B.1.2.1 oc (List.mem_of_getElem? hq)
  refine ok_for 11 (fun i x => x.2.2.2.1 = nI i ∧ ∃ q' : List Nat, x.1 = nI q'.length ∧ BI M0 s x.2.2.2.2 q' x.2.1 x.2.2.1 ∧ (∀ i o : Nat, q[i]? = some o → q'[i]? = some o) ∧ (∀ t, t < i → wL M0 t = true → 0 < rl M0 t oc → bt x.2.2.1 t = true) ∧ ∀ t, bt ss t = true → bt x.2.2.1 t = true) 0 (by omega) (by omega) ⟨rfl, q, rfl, B, fun _ _ h => h, fun t ht => by omega, fun _ h => h⟩ ?_
  rintro i ⟨x11, x12, x13, x14, M15⟩ hi ⟨e1, q', e2, B', hpre, hdone, hmono⟩
  dsimp only at e1 e2 B' hdone hmono
  subst e1; subst e2
  simp only [b_X9_makeRoom_2, b_X9_makeRoom_2c, ok_ite, nI_lit_le (show 11 < 2 ^ 31 by decide) (show i < 2 ^ 31 by omega)]
  refine ⟨fun hx => ?_, fun hx => ?_⟩
  · rw [ok_some]
    have : i = 11 := by omega
    subst this
    exact ⟨q', rfl, B', hpre, hdone, hmono⟩
  · have hb := B'
    obtain ⟨b1, b2, b3, b4, b5, b6, b7, b8⟩ := hb
    have hlaid : M15.1 10 0 5 = M0.1 10 0 5 := fr_I b8 (by unfold P3; omega) 5
    have hload : M15.1 49 0 (i * 10 + oc) = M0.1 49 0 (i * 10 + oc) := fr_I b8 (by unfold P3; omega) _
    rw [ok_bd]
    simp only [ok_ite, b_msk0 _ (show i < 32 by omega), b_and, b_not _ (show i < 32 by omega), ix10, ok_gi, nI_clamp (show i * 10 + oc < 2 ^ 31 by omega)]
    rw [hlaid, hload]
    have same : (wL M0 i = true → 0 < rl M0 i oc → bt x13 i = true) → i < 11 ∧ nI i + 1 = nI (i + 1) ∧ ∃ q2 : List Nat, nI q'.length = nI q2.length ∧ BI M0 s M15 q2 x12 x13 ∧ (∀ i o : Nat, q[i]? = some o → q2[i]? = some o) ∧ (∀ t, t < i + 1 → wL M0 t = true → 0 < rl M0 t oc → bt x13 t = true) ∧ ∀ t, bt ss t = true → bt x13 t = true := by
      intro hh
      refine ⟨by omega, nI_1 i, q', rfl, B', hpre, fun t ht a b => ?_, hmono⟩
      rcases Nat.lt_succ_iff_lt_or_eq.mp ht with h | h
      · exact hdone t h a b
      · subst h; exact hh a b
    refine ⟨fun h0 => ok_some.mpr (ok_some.mpr (same (fun a _ => ?_))), fun h0 => ⟨vp_in_nI (by omega) (by decide), fun h1 => ok_some.mpr (ok_some.mpr (same (fun _ b => ?_))), fun h1 => ?_⟩⟩
    · unfold wL at a
      rw [a] at h0
      simpa using h0
    · rw [i_le] at h1
      unfold rl at b
      exact absurd h1 (by show ¬ _ ≤ (0 : Int); omega)
    · rw [i_le] at h1
      have hpos : 0 < rl M0 i oc := by
        unfold rl
        exact Int.not_le.mp h1
      have hwl : wL M0 i = true ∧ bt x13 i = false := by
        unfold wL
        cases h3 : bt (M0.1 10 0 5) i <;> cases h4 : bt x13 i <;> simp [h3, h4] at h0 ⊢
      simp only [ok_nm, ok_cl, ok_gi]
      refine ⟨vp_in_nI (by omega) (by decide), ?_⟩
      have hq' := hpre h oc hq
      have hQ17 : QI (sI M15 54 0 (nI i).toNatClampNeg (nI oc)) q' := ⟨b1.1, b1.2.1, fun j o hj => by rw [rII, if_neg (by omega)]; exact b1.2.2 j o hj⟩
      refine ok_mono (reach_ok hF (show i < 11 by omega) hQ17 b2) (fun r hr => ?_)
      obtain ⟨p, r1, r2, r3, r4, r5, r6⟩ := hr
      have h47 : ∀ t, r.2.1 47 0 t = M0.1 47 0 t := fun t => (fr_I r6 (by omega) t).trans (fr_I b8 (by unfold P3; omega) t)
      have hf17 : fr P3 M0 (sI M15 54 0 (nI i).toNatClampNeg (nI oc)) := fr_sI b8 (Or.inr (Or.inr rfl))
      have hwR17 : ∀ t o, wR (sI M15 54 0 (nI i).toNatClampNeg (nI oc)) t o = wR M0 t o := fun t o => by
        unfold wR
        rw [rII, if_neg (by omega), fr_I b8 (by unfold P3; omega) t]
      have hcl : (nI i).toNatClampNeg = i := nI_clamp (by omega)
      have hnew := BI_add B' (show i < 11 by omega) hwl.2 hwl.1 hpos hq' r2 (fun o => by rw [r3 o, hwR17]) r4 (fun o ho => by rw [r5 o ho, rII, if_neg (by omega)]) (by rw [fr_I r6 (by omega), rII, hcl, if_pos ⟨rfl, rfl, rfl⟩]) (fun t' ht' => by rw [fr_I r6 (by omega), rII, hcl, if_neg (by omega)]) (fr_tr hf17 (fr_mono r6 (fun k n h => by unfold P3; omega)))
      refine ⟨vp_in_nI (by omega) (by decide), ?_⟩
      rw [ok_some]
      dsimp only
      rw [ok_some, hcl, h47]
      refine ⟨by omega, nI_1 i, q' ++ p, r1, hnew, fun j o hj => getq_app (hpre j o hj), fun t ht a b => ?_, fun t ht => by dsimp only; rw [b_or, hmono t ht]; rfl⟩
      dsimp only
      rw [b_or]
      rcases Nat.lt_succ_iff_lt_or_eq.mp ht with h | h
      · rw [hdone t h a b]; rfl
      · subst h; rw [b_one (by omega) (by omega)]; simp
theorem room2_ok {F : Nat} (hF : 1000 < F) {M0 M : mm} {s : Nat} {q : List Nat} {so ss : Int32} (B : BI M0 s M q so ss) :
    ok (lp (b_X9_makeRoom_1 F) F (nI q.length, so, ss, (0 : Int32), M)) (fun r => (∃ (q' : List Nat) (so' ss' : Int32) (j o : Nat) (M' : mm), r = .inl (nI o, M') ∧ BI M0 s M' q' so' ss' ∧ q'[j]? = some o ∧ 0 < lfM M0 o) ∨ (∃ (q' : List Nat) (so' ss' : Int32) (M' : mm), r = .inr M' ∧ BI M0 s M' q' so' ss' ∧ ∀ o, o ∈ q' → Shut M0 ss' o)) := by
  refine ok_for 10 (fun h x => x.2.2.2.1 = nI h ∧ ∃ q' : List Nat, x.1 = nI q'.length ∧ BI M0 s x.2.2.2.2 q' x.2.1 x.2.2.1 ∧ ∀ i o : Nat, i < h → q'[i]? = some o → Shut M0 x.2.2.1 o) 0 (by omega) (by omega) ⟨rfl, q, rfl, B, fun i o hi => by omega⟩ ?_
  rintro h ⟨x5, x6, x7, x8, M9⟩ hh ⟨e1, q', e2, B', hsh⟩
  dsimp only at e1 e2 B' hsh
  subst e1; subst e2
  have hlen := QI_len B'.1
  have fin : q'.length ≤ h → (∃ (q2 : List Nat) (so' ss' : Int32) (M' : mm), (Sum.inr M9 : (Int32 × mm) ⊕ mm) = .inr M' ∧ BI M0 s M' q2 so' ss' ∧ ∀ o, o ∈ q2 → Shut M0 ss' o) := by
    intro hle
    refine ⟨q', x6, x7, M9, rfl, B', fun o ho => ?_⟩
    obtain ⟨i, hi⟩ := List.mem_iff_getElem?.mp ho
    exact hsh i o (by have := (List.getElem?_eq_some_iff.mp hi).1; omega) hi
  simp only [b_X9_makeRoom_1, b_X9_makeRoom_1c, ok_ite, nI_leI (show q'.length < 2 ^ 31 by omega) (show h < 2 ^ 31 by omega), nI_lit_le (show 10 < 2 ^ 31 by decide) (show h < 2 ^ 31 by omega)]
  refine ⟨fun hx => ?_, fun hx => ⟨fun hy => by omega, fun hy => ?_⟩⟩
  · rw [ok_some]; exact Or.inr (fin hx)
  · obtain ⟨oc, hoc⟩ : ∃ oc, q'[h]? = some oc := ⟨q'[h]'(by omega), List.getElem?_eq_getElem (by omega)⟩
    have hoc10 : oc < 10 := B'.1.2.1 oc (List.mem_of_getElem? hoc)
    have hqv : M9.1 52 0 h = nI oc := B'.1.2.2 h oc hoc
    have hlf : M9.1 48 0 oc = M0.1 48 0 oc := fr_I B'.2.2.2.2.2.2.2 (by unfold P3; omega) oc
    simp only [ok_gi, ok_nm, nI_clamp (show h < 2 ^ 31 by omega), hqv, nI_clamp (show oc < 2 ^ 31 by omega), hlf, ok_ite]
    refine ⟨vp_in_nI (by omega) (by decide), vp_in_nI hoc10 (by decide), fun hz => ?_, fun hz => ?_⟩
    · rw [ok_bd]
      refine ok_mono (room1_ok hF B' hoc) (fun r hr => ?_)
      obtain ⟨y1, y2, y3, M4⟩ := r
      obtain ⟨q2, r1, r2, r3, r4, r5⟩ := hr
      dsimp only at r1 r2 r4 r5 ⊢
      rw [ok_some]
      refine ⟨by omega, nI_1 h, q2, r1, r2, fun i o hi ho => ?_⟩
      have hq2 : q'[i]? = some o := by
        have hil : i < q'.length := by omega
        have h1 := r3 i _ (List.getElem?_eq_getElem hil)
        rw [h1] at ho
        rw [List.getElem?_eq_getElem hil]; exact ho
      rcases Nat.lt_succ_iff_lt_or_eq.mp hi with a | a
      · obtain ⟨u1, u2⟩ := hsh i o a hq2
        exact ⟨u1, fun t ht a b => r5 t (u2 t ht a b)⟩
      · subst a
        rw [hoc] at hq2
        cases hq2
        refine ⟨?_, r4⟩
        rw [i_le] at hz
        unfold lfM; exact hz
    · rw [ok_some]
      refine Or.inl ⟨q', x6, x7, h, oc, M9, rfl, B', hoc, ?_⟩
      rw [i_le] at hz
      unfold lfM
      exact Int.not_le.mp hz
theorem nodup_inj : ∀ (q : List Nat), q.Nodup → ∀ i j o : Nat, q[i]? = some o → q[j]? = some o → i = j := by
  intro q
  induction q with
  | nil => intro _ i j o h; simp at h
  | cons a q ih =>
    intro hn i j o h1 h2
    obtain ⟨n1, n2⟩ := List.nodup_cons.mp hn
    cases i with
    | zero =>
      cases j with
      | zero => rfl
      | succ j => simp at h1 h2; subst h1; exact absurd (List.mem_of_getElem? h2) n1
    | succ i =>
      cases j with
      | zero => simp at h1 h2; subst h2; exact absurd (List.mem_of_getElem? h1) n1
      | succ j => simp at h1 h2; rw [ih n2 i j o h1 h2]
/-- the way back from an oath: stones that go over, each with the oath that it leaves -/
def Way (M0 M : mm) (s : Nat) : Nat → List (Nat × Nat) → Prop
  | o, [] => M.1 53 0 o = nI s ∧ wR M0 s o = true
  | o, (t, o') :: l => M.1 53 0 o = nI t ∧ t < 11 ∧ t ≠ s ∧ M.1 54 0 t = nI o' ∧ o' < 10 ∧ 0 < rl M0 t o' ∧ wR M0 t o = true ∧ wL M0 t = true ∧ (∀ e ∈ l, e.1 ≠ t) ∧ Way M0 M s o' l
theorem way_of {M0 M : mm} {s : Nat} {q : List Nat} {so ss : Int32} (B : BI M0 s M q so ss) : ∀ (j o : Nat), q[j]? = some o → ∃ l, Way M0 M s o l ∧ l.length ≤ j ∧ ∀ e ∈ l, ∃ i o' : Nat, i < j ∧ q[i]? = some o' ∧ M.1 54 0 e.1 = nI o' := by
  obtain ⟨b1, b2, b3, b4, b5, b6, b7, b8⟩ := B
  intro j
  induction j using Nat.strongRecOn with
  | _ j ih =>
    intro o hj
    obtain ⟨t, ht, h53, hss, hr⟩ := b6 o (List.mem_of_getElem? hj)
    by_cases e : t = s
    · subst e; exact ⟨[], ⟨h53, hr⟩, Nat.zero_le _, fun e he => by cases he⟩
    · obtain ⟨i, o', hij, hi, h54, hp⟩ := b7 j o t hj ht h53 e
      obtain ⟨l, hw, hlen, hall⟩ := ih i hij o' hi
      have ho' := b1.2.1 o' (List.mem_of_getElem? hi)
      refine ⟨(t, o') :: l, ⟨h53, ht, e, h54, ho', hp, hr, b4 t ht hss, fun e he et => ?_, hw⟩, by simp only [List.length_cons]; omega, fun e he => ?_⟩
      · obtain ⟨i2, o2, h1, h2, h3⟩ := hall e he
        rw [et, h54] at h3
        have h4 : o' = o2 := (nI_eq (by omega) (by have := b1.2.1 o2 (List.mem_of_getElem? h2); omega)).mp h3
        subst h4
        have h5 : i2 = i := nodup_inj q b1.1 i2 i o' h2 hi
        omega
      · rcases List.mem_cons.mp he with h | h
        · subst h; exact ⟨i, o', hij, hi, h54⟩
        · obtain ⟨i2, o2, h1, h2, h3⟩ := hall e h
          exact ⟨i2, o2, by omega, h2, h3⟩
