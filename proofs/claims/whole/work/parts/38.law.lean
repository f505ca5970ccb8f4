/-! the ageing law as the codes say it: a row of codes in which each joint stands behind its two parts -/
def plainV (b y k a : Int32) : Int32 := if k = 1 then b + y else if k = 3 then (if a = 0 then b else 2 * b) else b
def joinV (c x y : Int32) : Int32 := if c = -11 then x - y else if c = -10 then x + y else if c = -9 then (if x = y then 1 else 0) else if c = -8 then (if y ≤ x then 0 else 1) else if c = -7 then (if x = 0 then (if y = 0 then 0 else 1) else 1) else if c = -6 then (if x = 0 then 0 else if y = 0 then 0 else 1) else x * y
def leafV (b y k a c : Int32) : Int32 := if c < 0 then (if c = -1 then b else if c = -2 then y else if c = -3 then k else a) else c
def pstep (b y k a : Int32) (st : List Int32) (c : Int32) : List Int32 :=
  if ¬ c ≤ -5 ∧ st.length < 64 then leafV b y k a c :: st
  else if c = -5 ∧ 0 < st.length then (match st with | [] => [] | x :: r => (if x = 0 then 1 else 0) :: r)
  else if ¬ (-5) ≤ c ∧ 1 < st.length then (match st with | [] => [] | [z] => [z] | z :: x :: r => joinV c x z :: r)
  else st
def pev (b y k a : Int32) (cs : List Int32) : List Int32 := cs.foldl (pstep b y k a) []
def noteV (told : Bool) (cs : List Int32) (b y k a : Int32) : Int32 := (pev b y k a cs).getLast?.getD (if told then 0 else plainV b y k a)
def clampI (v : Int32) : Int32 := if 0 ≤ v then (if v ≤ 999 then v else 999) else 0
theorem clampI_b (v : Int32) : 0 ≤ (clampI v).toInt ∧ (clampI v).toInt ≤ 999 := by
  unfold clampI
  have h0 : (0 : Int32).toInt = 0 := rfl
  have h9 : (999 : Int32).toInt = 999 := rfl
  by_cases h : 0 ≤ v
  · rw [if_pos h]
    by_cases h2 : v ≤ 999
    · rw [if_pos h2]; rw [i_le] at h h2; omega
    · rw [if_neg h2]; omega
  · rw [if_neg h]; omega
theorem pstep_len (b y k a : Int32) (st : List Int32) (c : Int32) (h : st.length ≤ 64) : (pstep b y k a st c).length ≤ 64 := by
  unfold pstep
  split
  · simp only [List.length_cons]; omega
  · split
    · split <;> simp_all
    · split
      · split <;> simp_all; omega
      · exact h
theorem pstep_not {b y k a c x : Int32} {r : List Int32} (h : c = -5) : pstep b y k a (x :: r) c = (if x = 0 then 1 else 0) :: r := by
  subst h
  unfold pstep
  rw [if_neg (fun q => q.1 (by decide)), if_pos ⟨rfl, by simp⟩]
theorem pstep_join {b y k a c x z : Int32} {r : List Int32} (h : ¬ (-5) ≤ c) : pstep b y k a (z :: x :: r) c = joinV c x z :: r := by
  unfold pstep
  have h1 : c ≤ -5 := by rw [i_le] at h ⊢; omega
  have h2 : ¬ c = -5 := fun e => h (by rw [e]; decide)
  rw [if_neg (fun q => q.1 h1), if_neg (fun q => h2 q.1), if_pos ⟨h, by simp⟩]
/-- the stack in the memory -/
def StkM (o : Nat) (M : mm) (st : List Int32) : Prop := st.length ≤ 64 ∧ ∀ i v, st.reverse[i]? = some v → M.1 36 o i = v
theorem stk_top {o : Nat} {M : mm} {x : Int32} {r : List Int32} (h : StkM o M (x :: r)) : M.1 36 o r.length = x ∧ StkM o M r := by
  have hl := h.1
  simp only [List.length_cons] at hl
  refine ⟨h.2 _ _ (by simp), by omega, fun i v hv => h.2 i v ?_⟩
  have h1 := (List.getElem?_eq_some_iff.mp hv).1
  rw [List.reverse_cons, List.getElem?_append_left h1]; exact hv
theorem stk_push {o : Nat} {M : mm} {x : Int32} {r : List Int32} (h : StkM o M r) (hl : r.length < 64) : StkM o (sI M 36 o r.length x) (x :: r) := by
  refine ⟨by simp only [List.length_cons]; omega, fun i v hv => ?_⟩
  rw [List.reverse_cons, List.getElem?_append] at hv
  rw [rII]
  by_cases e : i < r.reverse.length
  · rw [if_pos e] at hv
    rw [List.length_reverse] at e
    rw [if_neg (fun q => by omega)]
    exact h.2 i v hv
  · rw [if_neg e] at hv
    have h1 : i - r.reverse.length = 0 := by
      have := (List.getElem?_eq_some_iff.mp hv).1
      simp at this; simp; omega
    rw [h1] at hv
    simp at hv
    rw [List.length_reverse] at e h1
    rw [if_pos ⟨rfl, rfl, by omega⟩, hv]
def CodeM (o : Nat) (M : mm) (cs : List Int32) : Prop := M.1 3 o 4 = nI cs.length ∧ cs.length ≤ 1000 ∧ ∀ i v, cs[i]? = some v → M.1 35 o i = v
def PL (o : Nat) : Nat → Nat → Prop := fun k n => (k = 36 ∨ k = 37 ∨ k = 38) ∧ n = o
theorem joined_ok {F : Nat} {c x y : Int32} {M : mm} : ok (m_X2_joined F c x y M) (fun r => r = (joinV c x y, M)) := by
  unfold m_X2_joined joinV
  repeat' split
  all_goals first | exact ok_some.mpr rfl | (rw [ok_some]; simp_all; done)
theorem plainWorth_ok {F : Nat} {b y k a : Int32} {M : mm} : ok (m_X2_plainWorth F b y k a M) (fun r => r = (plainV b y k a, M)) := by
  unfold m_X2_plainWorth plainV
  simp only [ok_ite, ok_nm, ok_some]
  refine ⟨fun h => by rw [if_pos h], fun h => ⟨fun h2 => ⟨fun h3 => by rw [if_neg h, if_pos h2, if_pos h3], fun h3 => by rw [if_neg h, if_pos h2, if_neg h3]⟩, fun h2 => by rw [if_neg h, if_neg h2]⟩⟩
theorem noteLoop_ok {F : Nat} (hF : 2000 < F) {o : Nat} {b y k a : Int32} {M : mm} {cs : List Int32} (hC : CodeM o M cs) :
    ok (lp (b_X2_note_1 F o y a b k) F ((0 : Int32), (0 : Int32), M)) (fun r => r.1 = nI (pev b y k a cs).length ∧ StkM o r.2 (pev b y k a cs) ∧ fr (fun k n => k = 36 ∧ n = o) M r.2) := by
  refine ok_for cs.length (fun i z => z.2.1 = nI i ∧ z.1 = nI (pev b y k a (cs.take i)).length ∧ StkM o z.2.2 (pev b y k a (cs.take i)) ∧ fr (fun k n => k = 36 ∧ n = o) M z.2.2) 0 (by have := hC.2.1; omega) (by omega) ⟨rfl, rfl, ⟨by simp [pev], fun i v h => by simp [pev] at h⟩, fr_rf⟩ ?_
  rintro i ⟨x7, x8, M9⟩ hi ⟨e1, e2, hS, hf⟩
  dsimp only at e1 e2 hS hf
  subst e1; subst e2
  have hlen := hC.2.1
  have hsz : M9.1 3 o 4 = nI cs.length := (fr_I hf (by omega) 4).trans hC.1
  simp only [b_X2_note_1, b_X2_note_1c, hsz, nI_leI (show cs.length < 2 ^ 31 by omega) (show i < 2 ^ 31 by omega)]
  by_cases hc : cs.length ≤ i
  · rw [if_pos hc, ok_some]
    have : i = cs.length := by omega
    subst this
    rw [List.take_length] at hS
    exact ⟨by rw [List.take_length], hS, hf⟩
  · rw [if_neg hc, ok_gi]
    refine ⟨vp_in_nI (by omega) (by decide), ?_⟩
    have hci : cs[i]? = some (cs[i]'(by omega)) := List.getElem?_eq_getElem (by omega)
    generalize cs[i]'(by omega) = c at hci
    have hcode : M9.1 35 o i = c := (fr_I hf (by omega) i).trans (hC.2.2 i c hci)
    have hnext : pev b y k a (cs.take (i + 1)) = pstep b y k a (pev b y k a (cs.take i)) c := by
      unfold pev
      rw [List.take_succ, hci, List.foldl_append]; rfl
    generalize hst : pev b y k a (cs.take i) = st at hS hnext ⊢
    rw [ok_nm, ok_bd, nI_clamp (by omega), hcode]
    have hs64 := hS.1
    -- one code
    have goal : ∀ z : Int32 × mm, z.1 = nI (pstep b y k a st c).length → StkM o z.2 (pstep b y k a st c) → fr (fun k n => k = 36 ∧ n = o) M9 z.2 → ok (match z with | (x18, M19) => some (.inl (x18, (nI i + (1 : Int32)), M19))) (Sum.elim (fun s' : Int32 × Int32 × mm => i < cs.length ∧ s'.2.1 = nI (i + 1) ∧ s'.1 = nI (pev b y k a (cs.take (i + 1))).length ∧ StkM o s'.2.2 (pev b y k a (cs.take (i + 1))) ∧ fr (fun k n => k = 36 ∧ n = o) M s'.2.2) (fun r : Int32 × mm => r.1 = nI (pev b y k a cs).length ∧ StkM o r.2 (pev b y k a cs) ∧ fr (fun k n => k = 36 ∧ n = o) M r.2)) := by
      intro z h1 h2 h3
      obtain ⟨z1, z2⟩ := z
      dsimp only at h1 h2 h3 ⊢
      rw [ok_some]
      refine ⟨by omega, nI_1 i, ?_, ?_, fr_tr hf h3⟩
      · dsimp only; rw [hnext]; exact h1
      · dsimp only; rw [hnext]; exact h2
    refine ok_mono (Q := fun z => z.1 = nI (pstep b y k a st c).length ∧ StkM o z.2 (pstep b y k a st c) ∧ fr (fun k n => k = 36 ∧ n = o) M9 z.2) ?_ (fun z hz => ?_)
    · simp only [ok_nm]
      have n64 : (64 : Int32) ≤ nI st.length ↔ 64 ≤ st.length := nI_lit_le (by decide) (by omega)
      have n0 : nI st.length ≤ (0 : Int32) ↔ st.length ≤ 0 := nI_le_lit (by decide) (by omega)
      have n1 : nI st.length ≤ (1 : Int32) ↔ st.length ≤ 1 := nI_le_lit (by decide) (by omega)
      have low : ok (if (-5 : Int32) ≤ c then some (nI st.length, M9) else if nI st.length ≤ (1 : Int32) then some (nI st.length, M9) else gi ((nI st.length + (-1 : Int32)) - (1 : Int32)) 64 <| gi (nI st.length + (-1 : Int32)) 64 <| cl (m_X2_joined F c (M9.1 36 o (Int32.toNatClampNeg ((nI st.length + (-1 : Int32)) - (1 : Int32)))) (M9.1 36 o (Int32.toNatClampNeg (nI st.length + (-1 : Int32)))) M9) fun x16 M15 => gi ((nI st.length + (-1 : Int32)) - (1 : Int32)) 64 <| nm (sI M15 36 o (Int32.toNatClampNeg ((nI st.length + (-1 : Int32)) - (1 : Int32))) x16) fun M17 => some ((nI st.length + (-1 : Int32)), M17)) (fun z => (¬ (¬ c ≤ -5 ∧ st.length < 64)) → (¬ (c = -5 ∧ 0 < st.length)) → z.1 = nI (pstep b y k a st c).length ∧ StkM o z.2 (pstep b y k a st c) ∧ fr (fun k n => k = 36 ∧ n = o) M9 z.2) := by
        simp only [n1, ok_ite]
        refine ⟨fun h1 => ok_some.mpr (fun a1 a2 => ?_), fun h1 => ⟨fun h2 => ok_some.mpr (fun a1 a2 => ?_), fun h2 => ?_⟩⟩
        · have : pstep b y k a st c = st := by unfold pstep; rw [if_neg a1, if_neg a2, if_neg (fun q => q.1 h1)]
          rw [this]; exact ⟨rfl, hS, fr_rf⟩
        · have : pstep b y k a st c = st := by unfold pstep; rw [if_neg a1, if_neg a2, if_neg (fun q => by omega)]
          rw [this]; exact ⟨rfl, hS, fr_rf⟩
        · match st, hS, h2, hs64 with
          | [], hS, h2, hs64 => simp at h2
          | [z], hS, h2, hs64 => simp at h2
          | z :: x :: r, hS, h2, hs64 =>
            obtain ⟨t1, hS2⟩ := stk_top hS
            obtain ⟨t2, hS3⟩ := stk_top hS2
            simp only [List.length_cons] at hs64 t1 ⊢
            rw [pk_m1, nI_pred]
            simp only [ok_gi, nI_clamp (show r.length < 2 ^ 31 by omega), nI_clamp (show r.length + 1 < 2 ^ 31 by omega), t1, t2, ok_cl]
            refine ⟨vp_in_nI (by omega) (by decide), vp_in_nI (by omega) (by decide), ok_mono joined_ok (fun q hq => ?_)⟩
            subst hq
            dsimp only
            refine ⟨vp_in_nI (by omega) (by decide), ?_⟩
            rw [ok_nm, ok_some]
            intro a1 a2
            rw [pstep_join h1]
            exact ⟨rfl, stk_push hS3 (by omega), fr_sI fr_rf ⟨rfl, rfl⟩⟩
      have mid : ok (if c = (-5 : Int32) then (if nI st.length ≤ (0 : Int32) then (if (-5 : Int32) ≤ c then some (nI st.length, M9) else if nI st.length ≤ (1 : Int32) then some (nI st.length, M9) else gi ((nI st.length + (-1 : Int32)) - (1 : Int32)) 64 <| gi (nI st.length + (-1 : Int32)) 64 <| cl (m_X2_joined F c (M9.1 36 o (Int32.toNatClampNeg ((nI st.length + (-1 : Int32)) - (1 : Int32)))) (M9.1 36 o (Int32.toNatClampNeg (nI st.length + (-1 : Int32)))) M9) fun x16 M15 => gi ((nI st.length + (-1 : Int32)) - (1 : Int32)) 64 <| nm (sI M15 36 o (Int32.toNatClampNeg ((nI st.length + (-1 : Int32)) - (1 : Int32))) x16) fun M17 => some ((nI st.length + (-1 : Int32)), M17)) else gi (nI st.length - (1 : Int32)) 64 <| bd (if (M9.1 36 o (Int32.toNatClampNeg (nI st.length - (1 : Int32)))) = (0 : Int32) then some (1 : Int32) else some (0 : Int32)) (fun x13 => gi (nI st.length - (1 : Int32)) 64 <| nm (sI M9 36 o (Int32.toNatClampNeg (nI st.length - (1 : Int32))) x13) fun M14 => some (nI st.length, M14))) else (if (-5 : Int32) ≤ c then some (nI st.length, M9) else if nI st.length ≤ (1 : Int32) then some (nI st.length, M9) else gi ((nI st.length + (-1 : Int32)) - (1 : Int32)) 64 <| gi (nI st.length + (-1 : Int32)) 64 <| cl (m_X2_joined F c (M9.1 36 o (Int32.toNatClampNeg ((nI st.length + (-1 : Int32)) - (1 : Int32)))) (M9.1 36 o (Int32.toNatClampNeg (nI st.length + (-1 : Int32)))) M9) fun x16 M15 => gi ((nI st.length + (-1 : Int32)) - (1 : Int32)) 64 <| nm (sI M15 36 o (Int32.toNatClampNeg ((nI st.length + (-1 : Int32)) - (1 : Int32))) x16) fun M17 => some ((nI st.length + (-1 : Int32)), M17))) (fun z => (¬ (¬ c ≤ -5 ∧ st.length < 64)) → z.1 = nI (pstep b y k a st c).length ∧ StkM o z.2 (pstep b y k a st c) ∧ fr (fun k n => k = 36 ∧ n = o) M9 z.2) := by
        rw [ok_ite]
        refine ⟨fun h1 => ?_, fun h1 => ok_mono low (fun z hz a1 => hz a1 (fun q => h1 q.1))⟩
        rw [ok_ite, n0]
        refine ⟨fun h2 => ok_mono low (fun z hz a1 => hz a1 (fun q => by omega)), fun h2 => ?_⟩
        match st, hS, h2, hs64 with
        | [], hS, h2, hs64 => simp at h2
        | x :: r, hS, h2, hs64 =>
          obtain ⟨t1, hS2⟩ := stk_top hS
          simp only [List.length_cons] at hs64 ⊢
          simp only [nI_pred, ok_gi, ok_bd, nI_clamp (show r.length < 2 ^ 31 by omega), t1, ok_ite, ok_some, ok_nm]
          refine ⟨vp_in_nI (by omega) (by decide), fun h3 => ⟨vp_in_nI (by omega) (by decide), fun a1 => ?_⟩, fun h3 => ⟨vp_in_nI (by omega) (by decide), fun a1 => ?_⟩⟩
          · rw [pstep_not h1, if_pos h3]
            exact ⟨rfl, stk_push hS2 (by omega), fr_sI fr_rf ⟨rfl, rfl⟩⟩
          · rw [pstep_not h1, if_neg h3]
            exact ⟨rfl, stk_push hS2 (by omega), fr_sI fr_rf ⟨rfl, rfl⟩⟩
      rw [ok_ite]
      refine ⟨fun h1 => ok_mono mid (fun z hz => hz (fun q => q.1 h1)), fun h1 => ?_⟩
      rw [ok_ite, n64]
      refine ⟨fun h2 => ok_mono mid (fun z hz => hz (fun q => by omega)), fun h2 => ?_⟩
      have hp : pstep b y k a st c = leafV b y k a c :: st := by unfold pstep; rw [if_pos ⟨h1, by omega⟩]
      rw [ok_bd]
      refine ok_mono (Q := fun v => v = leafV b y k a c) ?_ (fun v hv => ?_)
      · unfold leafV
        simp only [ok_ite, ok_some]
        refine ⟨fun g1 => ⟨fun g2 => by rw [if_pos g1, if_pos g2], fun g2 => ⟨fun g3 => by rw [if_pos g1, if_neg g2, if_pos g3], fun g3 => ⟨fun g4 => by rw [if_pos g1, if_neg g2, if_neg g3, if_pos g4], fun g4 => by rw [if_pos g1, if_neg g2, if_neg g3, if_neg g4]⟩⟩⟩, fun g1 => by rw [if_neg g1]⟩
      · subst hv
        simp only [ok_gi, ok_nm, ok_some, nI_clamp (show st.length < 2 ^ 31 by omega), nI_1]
        refine ⟨vp_in_nI (by omega) (by decide), ?_⟩
        rw [hp]
        exact ⟨rfl, stk_push hS (by omega), fr_sI fr_rf ⟨rfl, rfl⟩⟩
    · exact goal z hz.1 hz.2.1 hz.2.2
