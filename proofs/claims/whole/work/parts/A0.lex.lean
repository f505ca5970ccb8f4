/-! the signs and the tokens -/
def sg (T : List Int32) (i : Nat) : Int32 := T.getD i 0
def isLt (x : Int32) : Bool := decide (97 ≤ x.toInt ∧ x.toInt ≤ 122)
def isDg (x : Int32) : Bool := decide (48 ≤ x.toInt ∧ x.toInt ≤ 57)
def isBk (x : Int32) : Bool := decide (x = 32 ∨ x = 10)
def isSn (x : Int32) : Bool := decide ((40 ≤ x.toInt ∧ x.toInt ≤ 43) ∨ x.toInt = 45 ∨ (59 ≤ x.toInt ∧ x.toInt ≤ 61))
/-- how many from p on are so -/
def rnL (P : Int32 → Bool) (T : List Int32) (p : Nat) : Nat := ((T.drop p).takeWhile P).length
theorem rn_step {P : Int32 → Bool} {T : List Int32} {p : Nat} (h : p < T.length) (hp : P (sg T p) = true) : rnL P T p = rnL P T (p + 1) + 1 := by
  unfold rnL
  have e : T.drop p = T[p] :: T.drop (p + 1) := List.drop_eq_getElem_cons h
  have e2 : sg T p = T[p] := by unfold sg; rw [List.getD_eq_getElem?_getD, List.getElem?_eq_getElem h]; rfl
  rw [e2] at hp
  rw [e, List.takeWhile_cons, if_pos hp, List.length_cons]
theorem rn_stop {P : Int32 → Bool} {T : List Int32} {p : Nat} (h : p < T.length → P (sg T p) = false) : rnL P T p = 0 := by
  unfold rnL
  rcases Nat.lt_or_ge p T.length with q | q
  · have e : T.drop p = T[p] :: T.drop (p + 1) := List.drop_eq_getElem_cons q
    have e2 : sg T p = T[p] := by unfold sg; rw [List.getD_eq_getElem?_getD, List.getElem?_eq_getElem q]; rfl
    have := h q
    rw [e2] at this
    rw [e, List.takeWhile_cons, if_neg (by rw [this]; decide)]; rfl
  · rw [List.drop_eq_nil_of_le q]; rfl
theorem rn_le {P : Int32 → Bool} {T : List Int32} {p : Nat} (hp : p ≤ T.length) : p + rnL P T p ≤ T.length := by
  unfold rnL
  have h1 : ((T.drop p).takeWhile P).length ≤ (T.drop p).length := (List.takeWhile_sublist P).length_le
  rw [List.length_drop] at h1
  omega
/-- n letters from b on, the last first -/
def lw (T : List Int32) (b : Nat) : Nat → List Nat
  | 0 => []
  | n + 1 => ((sg T (b + n)).toNatClampNeg - 96) :: lw T b n
def dv (T : List Int32) (b : Nat) : Nat → Nat
  | 0 => 0
  | n + 1 => dv T b n * 10 + ((sg T (b + n)).toNatClampNeg - 48)
/-- a word's number -/
def pv (B : Nat) : List Nat → Nat
  | [] => 0
  | c :: r => pv B r * B + c
def WdOk (w : List Nat) : Prop := w.length ≤ 8 ∧ ∀ c, c ∈ w → 1 ≤ c ∧ c ≤ 26
theorem pv_inj {B : Nat} (hB : 27 ≤ B) : ∀ w v : List Nat, (∀ c, c ∈ w → 1 ≤ c ∧ c ≤ 26) → (∀ c, c ∈ v → 1 ≤ c ∧ c ≤ 26) → pv B w = pv B v → w = v
  | [], [], _, _, _ => rfl
  | [], c :: r, _, h, e => by
    have := (h c (List.mem_cons_self ..)).1
    have e : 0 = pv B r * B + c := e
    omega
  | c :: r, [], h, _, e => by
    have := (h c (List.mem_cons_self ..)).1
    have e : pv B r * B + c = 0 := e
    omega
  | c :: r, c' :: r', h, h', e => by
    have hc := h c (List.mem_cons_self ..)
    have hc' := h' c' (List.mem_cons_self ..)
    have e : pv B r * B + c = pv B r' * B + c' := e
    have e1 : (pv B r * B + c) % B = c := by rw [Nat.mul_comm, Nat.mul_add_mod, Nat.mod_eq_of_lt (by omega)]
    have e2 : (pv B r' * B + c') % B = c' := by rw [Nat.mul_comm, Nat.mul_add_mod, Nat.mod_eq_of_lt (by omega)]
    have e3 : c = c' := by rw [← e1, ← e2, e]
    subst e3
    have e4 : pv B r * B = pv B r' * B := by omega
    have e5 : pv B r = pv B r' := Nat.eq_of_mul_eq_mul_right (by omega) e4
    rw [pv_inj hB r r' (fun c hc => h c (List.mem_cons_of_mem _ hc)) (fun c hc => h' c (List.mem_cons_of_mem _ hc)) e5]
theorem pv_lt {B : Nat} (hB : 27 ≤ B) : ∀ w : List Nat, (∀ c, c ∈ w → 1 ≤ c ∧ c ≤ 26) → pv B w < B ^ w.length
  | [], _ => Nat.zero_lt_one
  | c :: r, h => by
    have hc := h c (List.mem_cons_self ..)
    have ih := pv_lt hB r (fun c hc => h c (List.mem_cons_of_mem _ hc))
    show pv B r * B + c < B ^ (r.length + 1)
    rw [Nat.pow_succ]
    have : (pv B r + 1) * B ≤ B ^ r.length * B := Nat.mul_le_mul_right B ih
    rw [Nat.add_mul] at this
    omega
theorem pv_b {B : Nat} (hB : 27 ≤ B) (hB2 : B ≤ 32) {w : List Nat} (h : WdOk w) : pv B w < 2 ^ 41 := by
  have h1 := pv_lt hB w h.2
  have h2 : B ^ w.length ≤ 32 ^ w.length := Nat.pow_le_pow_left hB2 _
  have h3 : 32 ^ w.length ≤ 32 ^ 8 := Nat.pow_le_pow_right (by decide) h.1
  have h4 : (32 : Nat) ^ 8 < 2 ^ 41 := by decide
  omega
theorem lN_inj {a b : Nat} (ha : a < 2 ^ 63) (hb : b < 2 ^ 63) : lN a = lN b ↔ a = b := by
  constructor
  · intro h
    have := congrArg Int64.toInt h
    rw [lNt ha, lNt hb] at this
    omega
  · intro h; rw [h]
theorem pvN {B : Nat} (hB : 27 ≤ B) (hB2 : B ≤ 32) {w v : List Nat} (h : WdOk w) (h' : WdOk v) : lN (pv B w) = lN (pv B v) ↔ w = v := by
  have a := pv_b hB hB2 h
  have b := pv_b hB hB2 h'
  rw [lN_inj (by omega) (by omega)]
  exact ⟨pv_inj hB w v h.2 h'.2, fun e => by rw [e]⟩
theorem lw_len {T : List Int32} {b : Nat} : ∀ n, (lw T b n).length = n
  | 0 => rfl
  | n + 1 => by show (lw T b n).length + 1 = n + 1; rw [lw_len n]
theorem lw_ok {T : List Int32} {b : Nat} : ∀ n, (∀ i, i < n → isLt (sg T (b + i)) = true) → ∀ c, c ∈ lw T b n → 1 ≤ c ∧ c ≤ 26
  | 0, _, c, h => by cases h
  | n + 1, hl, c, h => by
    rcases List.mem_cons.mp h with h | h
    · have := hl n (by omega)
      unfold isLt at this
      rw [decide_eq_true_iff] at this
      have e := i_clamp (a := sg T (b + n)) (by omega)
      omega
    · exact lw_ok n (fun i hi => hl i (by omega)) c h
theorem rn_all {P : Int32 → Bool} {T : List Int32} : ∀ (i p : Nat), p ≤ T.length → i < rnL P T p → P (sg T (p + i)) = true
  | i, p, hp, h => by
    rcases Nat.lt_or_ge p T.length with q | q
    · cases e : P (sg T p)
      · rw [rn_stop (fun _ => e)] at h; omega
      · rw [rn_step q e] at h
        cases i with
        | zero => exact e
        | succ i =>
          have := rn_all (P := P) (T := T) i (p + 1) (by omega) (by omega)
          rw [show p + 1 + i = p + (i + 1) by omega] at this; exact this
    · rw [rn_stop (fun h => by omega)] at h; omega
/-- a token: kind (0 end, 1 none, 2 word, 3 number, 4 sign), word, number or sign -/
abbrev tkt : Type := Nat × List Nat × Int32
def tkB (T : List Int32) (p : Nat) : Nat := p + rnL isBk T p
def tkE (T : List Int32) (p : Nat) : Nat :=
  if T.length ≤ tkB T p then tkB T p else if isLt (sg T (tkB T p)) = true then tkB T p + rnL isLt T (tkB T p) else if isDg (sg T (tkB T p)) = true then tkB T p + rnL isDg T (tkB T p) else tkB T p + 1
def tkA (T : List Int32) (p : Nat) : tkt :=
  if T.length ≤ tkB T p then (0, [], 0) else if isLt (sg T (tkB T p)) = true then (if rnL isLt T (tkB T p) ≤ 8 then (2, lw T (tkB T p) (rnL isLt T (tkB T p)), 0) else (1, [], 0)) else if isDg (sg T (tkB T p)) = true then (if rnL isDg T (tkB T p) ≤ 4 then (3, [], nI (dv T (tkB T p) (rnL isDg T (tkB T p)))) else (1, [], 0)) else if isSn (sg T (tkB T p)) = true then (4, [], sg T (tkB T p)) else (1, [], 0)
theorem tk_word {T : List Int32} {p : Nat} (hp : p ≤ T.length) (h : (tkA T p).1 = 2) : WdOk (tkA T p).2.1 ∧ (tkA T p).2.1 ≠ [] := by
  have hb : tkB T p ≤ T.length := rn_le hp
  unfold tkA at h ⊢
  split at h
  · cases h
  · rename_i q
    rw [if_neg q]
    split at h
    · rename_i q2
      rw [if_pos q2]
      split at h
      · rename_i q3
        rw [if_pos q3]
        refine ⟨⟨by show (lw T (tkB T p) _).length ≤ 8; rw [lw_len]; exact q3, fun c hc => lw_ok _ (fun i hi => rn_all i _ hb hi) c hc⟩, ?_⟩
        show lw T (tkB T p) (rnL isLt T (tkB T p)) ≠ []
        rw [rn_step (by omega) q2]
        intro e; cases e
      · cases h
    · split at h
      · split at h
        · cases h
        · cases h
      · split at h
        · cases h
        · cases h
theorem tkE_gt {T : List Int32} {p : Nat} (hp : p ≤ T.length) (h : (tkA T p).1 ≠ 0) : p < tkE T p ∧ tkE T p ≤ T.length := by
  have hb : tkB T p ≤ T.length := rn_le hp
  have hpb : p ≤ tkB T p := Nat.le_add_right _ _
  unfold tkA at h
  unfold tkE
  by_cases q : T.length ≤ tkB T p
  · rw [if_pos q] at h; exact absurd rfl h
  · rw [if_neg q]
    by_cases q2 : isLt (sg T (tkB T p)) = true
    · rw [if_pos q2]
      have := rn_step (P := isLt) (show tkB T p < T.length by omega) q2
      have := rn_le (P := isLt) hb
      omega
    · rw [if_neg q2]
      by_cases q3 : isDg (sg T (tkB T p)) = true
      · rw [if_pos q3]
        have := rn_step (P := isDg) (show tkB T p < T.length by omega) q3
        have := rn_le (P := isDg) hb
        omega
      · rw [if_neg q3]; omega
theorem tkE_le {T : List Int32} {p : Nat} (hp : p ≤ T.length) : p ≤ tkE T p ∧ tkE T p ≤ T.length := by
  by_cases h : (tkA T p).1 = 0
  · have hb : tkB T p ≤ T.length := rn_le hp
    have hpb : p ≤ tkB T p := Nat.le_add_right _ _
    unfold tkA at h
    unfold tkE
    by_cases q : T.length ≤ tkB T p
    · rw [if_pos q]; exact ⟨hpb, hb⟩
    · rw [if_neg q] at h
      exfalso
      split at h
      · split at h <;> cases h
      · split at h
        · split at h <;> cases h
        · split at h <;> cases h
  · have := tkE_gt hp h
    omega
