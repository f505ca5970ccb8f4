/-! the reference works the law out -/
theorem wk2_ok {F : Nat} (hF : 1000 < F) {M : mm} {fs : List wfr} {v : Int32} (h : WMs M fs) (hn : fs ≠ []) (hl : fs.length ≤ 7) :
    ok (lp (b_X12_worked_2 F M) F (nI (fs.length - 1), v)) (fun r => ∃ f' r' v', aPart fs v = some (f' :: r', some v') ∧ r = (nI r'.length, v') ∧ WMs M (f' :: r') ∧ r'.length < fs.length) := by
  refine ok_lp (fun n z => ∃ fs' v', n = fs'.length ∧ aPart fs v = aPart fs' v' ∧ z = (nI (fs'.length - 1), v') ∧ WMs M fs' ∧ fs' ≠ [] ∧ fs'.length ≤ fs.length) ?_ F fs.length _ (by omega) ⟨fs, v, rfl, rfl, rfl, h, hn, Nat.le_refl _⟩
  rintro n ⟨x13, x14⟩ ⟨fs', v', hn', ha, hz, hW, hne, hle⟩
  cases hz
  simp only [b_X12_worked_2, b_X12_worked_2c]
  match fs', hne, hW, ha, hle, hn' with
  | [f], _, hW, ha, hle, hn' =>
    have e0 : nI ([f].length - 1) = 0 := rfl
    rw [e0, if_pos (by decide), ok_some]
    exact ⟨f, [], x14, ha, rfl, hW, by simp only [List.length_nil, List.length_cons] at hle ⊢; omega⟩
  | f :: g :: r, _, hW, ha, hle, hn' =>
    simp only [List.length_cons, Nat.add_sub_cancel] at hle hn' ⊢
    have n0 : nI (r.length + 1) ≤ (0 : Int32) ↔ r.length + 1 ≤ 0 := nI_le_lit (by decide) (by omega)
    rw [if_neg (by rw [n0]; omega), ok_gi]
    refine ⟨vp_in_nI (by omega) (by decide), ?_⟩
    rw [nI_clamp (by omega)]
    have h92 : M.1 92 0 (r.length + 1) = f.1 := hW.1.1 (by simp)
    rw [h92, ok_ite]
    have hp : aPart (f :: g :: r) x14 = if f.1 = 1 then aPart (g :: r) (notV x14) else some (f :: g :: r, some x14) := rfl
    refine ⟨fun q => ?_, fun q => ?_⟩
    · rw [ok_bd]
      refine ok_mono (Q := fun x => x = notV x14) ?_ (fun x hx => ?_)
      · unfold notV
        simp only [ok_ite, ok_some]
        exact ⟨fun q => by rw [if_pos q], fun q => by rw [if_neg q]⟩
      · subst hx
        rw [ok_some]
        refine ⟨r.length + 1, by omega, g :: r, notV x14, rfl, ?_, ?_, hW.2.2, by simp, by simp only [List.length_cons]; omega⟩
        · rw [ha, hp, if_pos q]
        · rw [pk_m1]; simp
    · rw [ok_some]
      refine ⟨f, g :: r, x14, ?_, rfl, hW, by simp only [List.length_cons]; omega⟩
      rw [ha, hp, if_neg q]
theorem aPart_len : ∀ (fs : List wfr) (v : Int32) (s : ast), aPart fs v = some s → s.1.length ≤ fs.length ∧ s.1 ≠ [] := by
  intro fs
  induction fs with
  | nil => intro v s h; cases h
  | cons f r ih =>
    intro v s h
    cases r with
    | nil => cases h; simp
    | cons g r =>
      have hp : aPart (f :: g :: r) v = if f.1 = 1 then aPart (g :: r) (notV v) else some (f :: g :: r, some v) := rfl
      rw [hp] at h
      by_cases q : f.1 = 1
      · rw [if_pos q] at h
        have := ih (notV v) s h
        simp only [List.length_cons] at this ⊢
        exact ⟨by omega, this.2⟩
      · rw [if_neg q] at h; cases h; simp
theorem astep_len {b y k a c : Int32} {s s' : ast} (h : astep b y k a s c = some s') (hl : s.1.length ≤ 6) : s'.1.length ≤ 6 ∧ s'.1 ≠ [] := by
  obtain ⟨fs, cur⟩ := s
  cases fs with
  | nil => cases h
  | cons f r =>
    simp only [List.length_cons] at hl
    cases cur with
    | none =>
      simp only [astep] at h
      split at h
      · split at h
        · cases h; simp only [List.length_cons]; exact ⟨by omega, by simp⟩
        · cases h
      · split at h
        · have := aPart_len _ _ _ h
          simp only [List.length_cons] at this
          exact ⟨by omega, this.2⟩
        · cases h
    | some v =>
      simp only [astep] at h
      split at h
      · cases h; simp only [List.length_cons]; exact ⟨by omega, by simp⟩
      · split at h
        · cases h; simp only [List.length_cons]; exact ⟨by omega, by simp⟩
        · split at h
          · split at h
            · cases h; simp only [List.length_cons]; exact ⟨by omega, by simp⟩
            · cases h
          · split at h
            · cases h; simp only [List.length_cons]; exact ⟨by omega, by simp⟩
            · split at h
              · have := aPart_len _ _ _ h
                exact ⟨by omega, this.2⟩
              · cases h
/-- a part has come to its value: what stands behind the nots before it -/
theorem wkPart_ok {F : Nat} (hF : 1000 < F) {M : mm} {fs : List wfr} {v : Int32} (h : WMs M fs) (hn : fs ≠ []) (hl : fs.length ≤ 7) {α : Type} {g : Int32 → mm → Option α} {Q : α → Prop} (hg : ∀ s', aPart fs v = some s' → ∀ M', PA 0 M M' → WMt M' s' → ok (g (nI (s'.1.length - 1)) M') Q) :
    ok (bd (lp (b_X12_worked_2 F M) F (nI (fs.length - 1), v)) (fun z => match z with | (x16, x17) => gi x16 7 <| bd (if (M.1 91 0 (Int32.toNatClampNeg x16)) = (0 : Int32) then some x17 else gi x16 7 <| some ((M.1 90 0 (Int32.toNatClampNeg x16)) * x17)) (fun x18 => gi x16 7 <| nm (sI M 90 0 (Int32.toNatClampNeg x16) x18) fun M19 => g x16 M19))) Q := by
  rw [ok_bd]
  refine ok_mono (wk2_ok hF h hn hl) (fun r hr => ?_)
  obtain ⟨f', r', v', h1, h2, h3, h4⟩ := hr
  subst h2
  dsimp only
  have hin : vp_in (nI r'.length) 7 := vp_in_nI (by omega) (by decide)
  rw [ok_gi]
  refine ⟨hin, ?_⟩
  rw [ok_bd, nI_clamp (by omega)]
  refine ok_mono (Q := fun x => x = tvV f' v') ?_ (fun x hx => ?_)
  · have ht := h3.2.1
    unfold TV1 at ht
    unfold tvV
    cases e : f'.2.2.2.2 with
    | none => rw [e] at ht; rw [ht, if_pos rfl, ok_some]
    | some t => rw [e] at ht; simp only at ht ⊢; rw [if_neg ht.1, ok_gi, ok_some, ht.2]; exact ⟨hin, rfl⟩
  · subst hx
    rw [ok_gi]
    refine ⟨hin, ?_⟩
    rw [ok_nm]
    have hp : PA r'.length M (sI M 90 0 r'.length (tvV f' v')) := PA_sI PA_rf (by omega) (Nat.le_refl _)
    refine hg _ h1 _ (PA_le hp (Nat.zero_le _)) ⟨?_, ?_, WMs_PA h3.2.2 hp (Nat.le_refl _)⟩
    · have := h3.1
      unfold WF1 at this ⊢
      simpa [rII] using this
    · simp [rII]
/-- the facts, as the reference holds them -/
def VO (M : mm) (b y k a : Int32) : Prop := M.1 93 0 1 = b ∧ M.1 93 0 2 = y ∧ M.1 93 0 3 = k ∧ M.1 93 0 4 = a
theorem c100 {c : Int32} (h : 100 ≤ c) : (c ≠ 28 ∧ c ≠ 30 ∧ c ≠ 20 ∧ c ≠ 21 ∧ c ≠ 22) ∧ (c ≠ 24 ∧ c ≠ 25 ∧ c ≠ 26 ∧ c ≠ 27 ∧ c ≠ 29) ∧ ¬ c < 100 := by
  refine ⟨⟨?_, ?_, ?_, ?_, ?_⟩, ⟨?_, ?_, ?_, ?_, ?_⟩, ?_⟩
  all_goals first | (intro e; subst e; exact absurd h (by decide)) | (rw [i_le] at h; rw [i_lt]; omega)
theorem wk1_ok {F : Nat} (hF : 3000 < F) {M : mm} {b y k a : Int32} {cs : List Int32} {sf : ast} (hv : VO M b y k a) (h80 : M.1 80 0 0 = nI cs.length) (hlen : cs.length ≤ 1000) (h81 : ∀ i c, cs[i]? = some c → M.1 81 0 i = c) (hw : WMt M ast0) (hev : aev b y k a cs ast0 = some sf) :
    ok (lp (b_X12_worked_1 F (0 : Int32)) F ((0 : Int32), (0 : Int32), M)) (fun M' => PA 0 M M' ∧ WMt M' sf) := by
  have pre : ∀ i, i ≤ cs.length → ∃ s, aev b y k a (cs.take i) ast0 = some s := by
    have key : ∀ (cs : List Int32) (s s' : ast), aev b y k a cs s = some s' → ∀ i, ∃ t, aev b y k a (cs.take i) s = some t := by
      intro cs
      induction cs with
      | nil => intro s s' _ i; exact ⟨s, by simp [aev]⟩
      | cons c cs ih =>
        intro s s' h i
        cases i with
        | zero => exact ⟨s, rfl⟩
        | succ i =>
          simp only [List.take_succ_cons, aev] at h ⊢
          cases e : astep b y k a s c with
          | none => rw [e] at h; cases h
          | some s2 => rw [e] at h; exact ih s2 s' h i
    exact fun i _ => key cs _ _ hev i
  refine ok_for cs.length (fun i z => z.2.1 = nI i ∧ PA 0 M z.2.2 ∧ ∃ s, aev b y k a (cs.take i) ast0 = some s ∧ WMt z.2.2 s ∧ z.1 = nI (s.1.length - 1) ∧ s.1.length ≤ 6 ∧ s.1 ≠ []) 0 (by omega) (by omega) ⟨rfl, PA_rf, ast0, by simp [aev], hw, rfl, by simp [ast0], by simp [ast0]⟩ ?_
  rintro i ⟨x3, x4, M5⟩ hi ⟨e1, hp, s, hs, hW, e2, hl, hne⟩
  dsimp only at e1 hp hW e2
  subst e1; subst e2
  have g80 : M5.1 80 0 0 = nI cs.length := (hp.2.2 80 0 0 (by omega)).trans h80
  simp only [b_X12_worked_1, b_X12_worked_1c]
  rw [ok_gi]
  refine ⟨vp_in_nI (n := 0) (by decide) (by decide), ?_⟩
  have z0 : (0 : Int32).toNatClampNeg = 0 := rfl
  rw [z0, g80, ok_ite, nI_leI (by omega) (by omega)]
  refine ⟨fun hc => ?_, fun hc => ?_⟩
  · have : i = cs.length := by omega
    subst this
    rw [List.take_length, hev] at hs
    cases hs
    exact ok_some.mpr ⟨hp, hW⟩
  · have hci : cs[i]? = some (cs[i]'(by omega)) := List.getElem?_eq_getElem (by omega)
    generalize cs[i]'(by omega) = c at hci
    have g81 : M5.1 81 0 i = c := (hp.2.2 81 0 i (by omega)).trans (h81 i c hci)
    rw [ok_gi]
    refine ⟨vp_in_nI (by omega) (by decide), ?_⟩
    rw [ok_nm, nI_clamp (by omega), g81, ok_bd]
    obtain ⟨s', hs'⟩ := pre (i + 1) (by omega)
    have htk : cs.take (i + 1) = cs.take i ++ [c] := by rw [List.take_succ, hci]; rfl
    have hst : astep b y k a s c = some s' := by
      rw [htk, aev_app, hs] at hs'
      exact hs'
    have hl' := astep_len hst hl
    refine ok_mono (Q := fun z => z.1 = nI (s'.1.length - 1) ∧ PA 0 M5 z.2 ∧ WMt z.2 s') ?_ (fun z hz => ?_)
    · obtain ⟨fs, cur⟩ := s
      cases fs with
      | nil => exact absurd rfl hne
      | cons f r =>
        simp only [List.length_cons, Nat.add_sub_cancel] at hl ⊢
        have hin : vp_in (nI r.length) 7 := vp_in_nI (by omega) (by decide)
        have hcl : (nI r.length).toNatClampNeg = r.length := nI_clamp (by omega)
        cases cur with
        | none =>
          simp only [astep] at hst
          have hW : WMs M5 (f :: r) := hW
          by_cases q : c = 28 ∨ c = 30
          · rw [if_pos q] at hst
            by_cases q2 : r.length < 5
            · rw [if_pos q2] at hst
              cases hst
              have push : ∀ n : Int32, ok (gi (nI r.length + (1 : Int32)) 7 <| nm (sI M5 92 0 (Int32.toNatClampNeg (nI r.length + (1 : Int32))) n) fun M31 => cv (m_X12_opens F (nI r.length + (1 : Int32)) M31) fun M32 => some ((nI r.length + (1 : Int32)), M32)) (fun z => z.1 = nI ((fresh0 n :: f :: r, (none : Option Int32)).1.length - 1) ∧ PA 0 M5 z.2 ∧ WMt z.2 (fresh0 n :: f :: r, none)) := by
                intro n
                rw [nI_1, ok_gi]
                refine ⟨vp_in_nI (by omega) (by decide), ?_⟩
                rw [ok_nm, ok_cv, nI_clamp (by omega)]
                refine ok_mono (opens_ok (show r.length + 1 < 7 by omega)) (fun M' hM' => ?_)
                obtain ⟨o1, o2, o3, o4, o5, o6, o7⟩ := hM'
                have hp' : PA (r.length + 1) M5 M' := PA_tr (PA_sI PA_rf (by omega) (Nat.le_refl _)) o1
                rw [ok_some]
                refine ⟨by simp, PA_le hp' (Nat.zero_le _), ⟨fun _ => ?_, ?_, ?_, ?_, ?_⟩, ?_, WMs_PA hW hp' (by simp)⟩
                · simp only [List.length_cons]; rw [o7]; simp [rII, fresh0]
                · simp only [fresh0, List.length_cons]; exact o2
                · simp only [fresh0, List.length_cons]; exact o3
                · simp only [fresh0, List.length_cons]; exact o4
                · simp only [fresh0, List.length_cons]; exact o5
                · unfold TV1; simp only [fresh0, List.length_cons]; exact o6
              rcases q with rfl | rfl
              · rw [ok_nm, if_pos rfl, if_neg (by decide), ok_bd, ok_some]
                rw [if_neg (by decide)]
                exact push 0
              · rw [ok_nm, if_neg (by decide), if_pos rfl, if_pos rfl, ok_bd, ok_some]
                rw [if_pos rfl]
                exact push 1
            · rw [if_neg q2] at hst; cases hst
          · rw [if_neg q] at hst
            by_cases q2 : c = 1 ∨ c = 2 ∨ c = 3 ∨ c = 4 ∨ 100 ≤ c
            · rw [if_pos q2] at hst
              obtain ⟨v1, v2, v3, v4⟩ := hv
              have h93 : ∀ i, M5.1 93 0 i = M.1 93 0 i := fun i => hp.2.2 93 0 i (by omega)
              have tail : ∀ v, v = wleaf b y k a c → ok (bd (some ((nI r.length), v, M5)) (fun z => match z with | (x10, x11, M12) => bd (lp (b_X12_worked_2 F M12) F (x10, x11)) (fun z => match z with | (x16, x17) => gi x16 7 <| bd (if (M12.1 91 0 (Int32.toNatClampNeg x16)) = (0 : Int32) then some x17 else gi x16 7 <| some ((M12.1 90 0 (Int32.toNatClampNeg x16)) * x17)) (fun x18 => gi x16 7 <| nm (sI M12 90 0 (Int32.toNatClampNeg x16) x18) fun M19 => some (x16, M19))))) (fun z => z.1 = nI (s'.1.length - 1) ∧ PA 0 M5 z.2 ∧ WMt z.2 s') := by
                intro v hv
                subst hv
                rw [ok_bd, ok_some]
                dsimp only
                refine wkPart_ok (by omega) (fs := f :: r) hW (by simp) (by simp only [List.length_cons]; omega) (g := fun x M => some (x, M)) (fun s2 h2 M' hM' hW' => ?_)
                rw [hst] at h2
                cases h2
                exact ok_some.mpr ⟨rfl, hM', hW'⟩
              have e93 : ∀ i : Nat, i < 20 → M5.1 93 0 (nI i).toNatClampNeg = M.1 93 0 i := fun i hi => by rw [nI_clamp (by omega)]; exact h93 i
              rcases q2 with rfl | rfl | rfl | rfl | q2
              · rw [ok_nm, if_neg (by decide), if_neg (by decide), ok_nm, if_neg (by decide), if_neg (by decide), if_neg (by decide), ok_nm, if_neg (by decide), if_neg (by decide), ok_nm, if_neg (by decide), if_neg (by decide), ok_bd, if_pos (by decide), if_neg (by decide), ok_gi]
                refine ⟨vp_in_nI (n := 1) (by decide) (by decide), ?_⟩
                rw [ok_some, if_neg (by decide)]
                exact tail _ ((e93 1 (by omega)).trans (v1.trans (by unfold wleaf; rw [if_pos (by decide), if_pos rfl])))
              · rw [ok_nm, if_neg (by decide), if_neg (by decide), ok_nm, if_neg (by decide), if_neg (by decide), if_neg (by decide), ok_nm, if_neg (by decide), if_neg (by decide), ok_nm, if_neg (by decide), if_neg (by decide), ok_bd, if_pos (by decide), if_neg (by decide), ok_gi]
                refine ⟨vp_in_nI (n := 2) (by decide) (by decide), ?_⟩
                rw [ok_some, if_neg (by decide)]
                exact tail _ ((e93 2 (by omega)).trans (v2.trans (by unfold wleaf; rw [if_pos (by decide), if_neg (by decide), if_pos rfl])))
              · rw [ok_nm, if_neg (by decide), if_neg (by decide), ok_nm, if_neg (by decide), if_neg (by decide), if_neg (by decide), ok_nm, if_neg (by decide), if_neg (by decide), ok_nm, if_neg (by decide), if_neg (by decide), ok_bd, if_pos (by decide), if_neg (by decide), ok_gi]
                refine ⟨vp_in_nI (n := 3) (by decide) (by decide), ?_⟩
                rw [ok_some, if_neg (by decide)]
                exact tail _ ((e93 3 (by omega)).trans (v3.trans (by unfold wleaf; rw [if_pos (by decide), if_neg (by decide), if_neg (by decide), if_pos rfl])))
              · rw [ok_nm, if_neg (by decide), if_neg (by decide), ok_nm, if_neg (by decide), if_neg (by decide), if_neg (by decide), ok_nm, if_neg (by decide), if_neg (by decide), ok_nm, if_neg (by decide), if_neg (by decide), ok_bd, if_pos (by decide), if_neg (by decide), ok_gi]
                refine ⟨vp_in_nI (n := 4) (by decide) (by decide), ?_⟩
                rw [ok_some, if_neg (by decide)]
                exact tail _ ((e93 4 (by omega)).trans (v4.trans (by unfold wleaf; rw [if_pos (by decide), if_neg (by decide), if_neg (by decide), if_neg (by decide)])))
              · obtain ⟨⟨n1, n2, n3, n4, n5⟩, ⟨n6, n7, n8, n9, n10⟩, n11⟩ := c100 q2
                rw [ok_nm, if_neg n1, if_neg n2, ok_nm, if_neg n3, if_neg n4, if_neg n5, ok_nm, if_neg n6, if_neg n7, ok_nm, if_neg n8, if_neg n9, ok_bd, if_neg n11, ok_some, if_neg n10]
                exact tail _ (by unfold wleaf; rw [if_neg n11])
            · rw [if_neg q2] at hst; cases hst
        | some v =>
          simp only [astep] at hst
          obtain ⟨w1, w2, w3⟩ : WF1 M5 r.length f ∧ M5.1 90 0 r.length = tvV f v ∧ WMs M5 r := hW
          -- a joint that begins a sum's next part
          have j20 : c = 20 ∨ c = 21 → ok (cv (m_X12_sums F (nI r.length) M5) fun M28 => gi (nI r.length) 7 <| nm (sI M28 89 0 (Int32.toNatClampNeg (nI r.length)) c) fun M29 => some ((nI r.length), M29)) (fun z => z.1 = nI (((f.1, f.2.1, f.2.2.1, some (svV f v, c), none) :: r, (none : Option Int32)).1.length - 1) ∧ PA 0 M5 z.2 ∧ WMt z.2 ((f.1, f.2.1, f.2.2.1, some (svV f v, c), none) :: r, none)) := by
            intro hc
            rw [ok_cv]
            refine ok_mono (sums_ok (show r.length < 7 by omega) w1 w2) (fun M' hM' => ?_)
            obtain ⟨p1, p2, p3, p4⟩ := hM'
            rw [ok_gi]
            refine ⟨hin, ?_⟩
            rw [ok_nm, ok_some, hcl]
            have hp' : PA r.length M5 (sI M' 89 0 r.length c) := PA_sI p1 (by omega) (Nat.le_refl _)
            refine ⟨by simp, PA_le hp' (Nat.zero_le _), ⟨fun h0 => ?_, ?_, ?_, ?_⟩, ?_, WMs_PA w3 hp' (Nat.le_refl _)⟩
            · simp [rII]; rw [p4 92 (by decide) (by decide)]; exact w1.1 h0
            · have := w1.2.1
              simp [rII]; simp only [p4 84 (by decide) (by decide), p4 85 (by decide) (by decide)]; exact this
            · have := w1.2.2.1
              simp [rII]; simp only [p4 86 (by decide) (by decide), p4 87 (by decide) (by decide)]; exact this
            · simp [rII, p2]; exact hc
            · unfold TV1; simp [rII, p3]
          have j24 : c = 24 ∨ c = 25 → ok (cv (m_X12_sums F (nI r.length) M5) fun M22 => gi (nI r.length) 7 <| gi (nI r.length) 7 <| nm (sI M22 86 0 (Int32.toNatClampNeg (nI r.length)) (M22.1 88 0 (Int32.toNatClampNeg (nI r.length)))) fun M23 => gi (nI r.length) 7 <| nm (sI M23 87 0 (Int32.toNatClampNeg (nI r.length)) c) fun M24 => gi (nI r.length) 7 <| nm (sI M24 88 0 (Int32.toNatClampNeg (nI r.length)) (0 : Int32)) fun M25 => gi (nI r.length) 7 <| nm (sI M25 89 0 (Int32.toNatClampNeg (nI r.length)) (20 : Int32)) fun M26 => some ((nI r.length), M26)) (fun z => z.1 = nI (((f.1, f.2.1, some (svV f v, c), none, none) :: r, (none : Option Int32)).1.length - 1) ∧ PA 0 M5 z.2 ∧ WMt z.2 ((f.1, f.2.1, some (svV f v, c), none, none) :: r, none)) := by
            intro hc
            rw [ok_cv]
            refine ok_mono (sums_ok (show r.length < 7 by omega) w1 w2) (fun M' hM' => ?_)
            obtain ⟨p1, p2, p3, p4⟩ := hM'
            simp only [ok_gi, ok_nm, ok_some, hcl]
            have hp' : PA r.length M5 (sI (sI (sI (sI M' 86 0 r.length (M'.1 88 0 r.length)) 87 0 r.length c) 88 0 r.length 0) 89 0 r.length 20) := PA_sI (PA_sI (PA_sI (PA_sI p1 (by omega) (Nat.le_refl _)) (by omega) (Nat.le_refl _)) (by omega) (Nat.le_refl _)) (by omega) (Nat.le_refl _)
            refine ⟨hin, hin, hin, hin, hin, by simp, PA_le hp' (Nat.zero_le _), ⟨fun h0 => ?_, ?_, ?_, ?_⟩, ?_, WMs_PA w3 hp' (Nat.le_refl _)⟩
            · simp [rII]; rw [p4 92 (by decide) (by decide)]; exact w1.1 h0
            · have := w1.2.1
              simp [rII]; simp only [p4 84 (by decide) (by decide), p4 85 (by decide) (by decide)]; exact this
            · simp [rII, p2]; exact hc
            · simp [rII]
            · unfold TV1; simp [rII, p3]
          have j26 : c = 26 ∨ c = 27 → ok (cv (m_X12_tests F (nI r.length) M5) fun M20 => gi (nI r.length) 7 <| nm (sI M20 85 0 (Int32.toNatClampNeg (nI r.length)) c) fun M21 => some ((nI r.length), M21)) (fun z => z.1 = nI (((f.1, some (kpV f v, c), none, none, none) :: r, (none : Option Int32)).1.length - 1) ∧ PA 0 M5 z.2 ∧ WMt z.2 ((f.1, some (kpV f v, c), none, none, none) :: r, none)) := by
            intro hc
            rw [ok_cv]
            refine ok_mono (tests_ok (show r.length < 7 by omega) w1 w2) (fun M' hM' => ?_)
            obtain ⟨p1, p2, p3, p4, p5, p6, p7⟩ := hM'
            simp only [ok_gi, ok_nm, ok_some, hcl]
            have hp' : PA r.length M5 (sI M' 85 0 r.length c) := PA_sI p1 (by omega) (Nat.le_refl _)
            refine ⟨hin, by simp, PA_le hp' (Nat.zero_le _), ⟨fun h0 => ?_, ?_, ?_, ?_⟩, ?_, WMs_PA w3 hp' (Nat.le_refl _)⟩
            · simp [rII]; rw [p7]; exact w1.1 h0
            · simp [rII, p2]; exact hc
            · simp [rII, p3]
            · simp [rII, p4, p5]
            · unfold TV1; simp [rII, p6]
          by_cases q20 : c = 20 ∨ c = 21
          · rw [if_pos q20] at hst
            cases hst
            rcases q20 with rfl | rfl
            · rw [ok_nm, if_neg (by decide), if_neg (by decide), ok_nm, if_pos rfl]
              exact j20 (Or.inl rfl)
            · rw [ok_nm, if_neg (by decide), if_neg (by decide), ok_nm, if_neg (by decide), if_pos rfl]
              exact j20 (Or.inr rfl)
          · rw [if_neg q20] at hst
            by_cases q22 : c = 22
            · rw [if_pos q22] at hst
              cases hst
              subst q22
              rw [ok_nm, if_neg (by decide), if_neg (by decide), ok_nm, if_neg (by decide), if_neg (by decide), if_pos rfl]
              simp only [ok_gi, ok_nm, ok_some, hcl]
              have hp' : PA r.length M5 (sI M5 91 0 r.length 22) := PA_sI PA_rf (by omega) (Nat.le_refl _)
              refine ⟨hin, by simp, PA_le hp' (Nat.zero_le _), ?_, ?_, WMs_PA w3 hp' (Nat.le_refl _)⟩
              · have := w1
                unfold WF1 at this ⊢
                simpa [rII] using this
              · unfold TV1; simp [rII, w2]
            · rw [if_neg q22] at hst
              by_cases q24 : c = 24 ∨ c = 25
              · rw [if_pos q24] at hst
                by_cases q0 : f.2.2.1 = none
                · rw [if_pos q0] at hst
                  cases hst
                  rcases q24 with rfl | rfl
                  · rw [ok_nm, if_neg (by decide), if_neg (by decide), ok_nm, if_neg (by decide), if_neg (by decide), if_neg (by decide), ok_nm, if_pos rfl]
                    exact j24 (Or.inl rfl)
                  · rw [ok_nm, if_neg (by decide), if_neg (by decide), ok_nm, if_neg (by decide), if_neg (by decide), if_neg (by decide), ok_nm, if_neg (by decide), if_pos rfl]
                    exact j24 (Or.inr rfl)
                · rw [if_neg q0] at hst; cases hst
              · rw [if_neg q24] at hst
                by_cases q26 : c = 26 ∨ c = 27
                · rw [if_pos q26] at hst
                  cases hst
                  rcases q26 with rfl | rfl
                  · rw [ok_nm, if_neg (by decide), if_neg (by decide), ok_nm, if_neg (by decide), if_neg (by decide), if_neg (by decide), ok_nm, if_neg (by decide), if_neg (by decide), ok_nm, if_pos rfl]
                    exact j26 (Or.inl rfl)
                  · rw [ok_nm, if_neg (by decide), if_neg (by decide), ok_nm, if_neg (by decide), if_neg (by decide), if_neg (by decide), ok_nm, if_neg (by decide), if_neg (by decide), ok_nm, if_neg (by decide), if_pos rfl]
                    exact j26 (Or.inr rfl)
                · rw [if_neg q26] at hst
                  by_cases q29 : c = 29
                  · rw [if_pos q29] at hst
                    subst q29
                    rw [ok_nm, if_neg (by decide), if_neg (by decide), ok_nm, if_neg (by decide), if_neg (by decide), if_neg (by decide), ok_nm, if_neg (by decide), if_neg (by decide), ok_nm, if_neg (by decide), if_neg (by decide), ok_bd, if_pos (by decide), if_pos (by decide), ok_some, if_pos rfl, ok_bd, ok_cv]
                    refine ok_mono (tests_ok (show r.length < 7 by omega) w1 w2) (fun M' hM' => ?_)
                    obtain ⟨p1, p2, p3, p4, p5, p6, p7⟩ := hM'
                    rw [ok_gi]
                    refine ⟨hin, ?_⟩
                    rw [ok_nm, ok_some, hcl, p2]
                    have hrne : r ≠ [] := by
                      intro e
                      subst e
                      cases hst
                    obtain ⟨n, hn⟩ : ∃ n, r.length = n + 1 := ⟨r.length - 1, by have := List.length_pos_iff.mpr hrne; omega⟩
                    have hx : nI r.length + (-1 : Int32) = nI (r.length - 1) := by rw [hn, pk_m1]; rfl
                    rw [hx]
                    dsimp only
                    refine wkPart_ok (by omega) (fs := r) (WMs_PA w3 p1 (Nat.le_refl _)) hrne (by omega) (g := fun x M => some (x, M)) (fun s2 h2 M2 hM2 hW2 => ?_)
                    rw [hst] at h2
                    cases h2
                    exact ok_some.mpr ⟨rfl, PA_tr (PA_le p1 (Nat.zero_le _)) hM2, hW2⟩
                  · rw [if_neg q29] at hst; cases hst
    · obtain ⟨x33, M34⟩ := z
      obtain ⟨z1, z2, z3⟩ := hz
      dsimp only at z1 z2 z3 ⊢
      rw [ok_some]
      exact ⟨by omega, nI_1 i, PA_tr hp z2, s', hs', z3, z1, hl'.1, hl'.2⟩
