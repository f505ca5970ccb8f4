/-! the surest words: values -/
def SrOn (V : Nat → Int32) (P : Nat → Prop) (r c : Int32) : Prop := (r = -1 ∧ c = -1 ∧ ∀ i, P i → (V i).toInt < 0) ∨ ∃ j, P j ∧ r = nI j ∧ c = V j ∧ 0 ≤ (V j).toInt ∧ ∀ i, P i → (V i).toInt < (V j).toInt ∨ ((V i).toInt = (V j).toInt ∧ j ≤ i)
theorem SrOn_c {V : Nat → Int32} {P P' : Nat → Prop} {r c : Int32} (h : SrOn V P r c) (e : ∀ i, P i ↔ P' i) : SrOn V P' r c := by
  rcases h with ⟨a, b, d⟩ | ⟨j, a, b, d, f, g⟩
  · exact Or.inl ⟨a, b, fun i hi => d i ((e i).mpr hi)⟩
  · exact Or.inr ⟨j, (e j).mp a, b, d, f, fun i hi => g i ((e i).mpr hi)⟩
theorem SrOn_one {V : Nat → Int32} {P : Nat → Prop} {r c r' c' : Int32} (h : SrOn V P r c) (h' : SrOn V P r' c') : r = r' ∧ c = c' := by
  rcases h with ⟨a, b, d⟩ | ⟨j, a, b, d, f, g⟩ <;> rcases h' with ⟨a', b', d'⟩ | ⟨j', a', b', d', f', g'⟩
  · exact ⟨a.trans a'.symm, b.trans b'.symm⟩
  · have := d j' a'; omega
  · have := d' j a; omega
  · have h1 := g j' a'
    have h2 := g' j a
    have e : j = j' := by omega
    subst e
    exact ⟨b.trans b'.symm, d.trans d'.symm⟩
theorem SrOn_add {V : Nat → Int32} {P P' : Nat → Prop} {r c : Int32} {j : Nat} (h : SrOn V P r c) (hj : ∀ i, P i → i < j) (e : ∀ i, P' i ↔ P i ∨ i = j) : (c < V j → SrOn V P' (nI j) (V j)) ∧ (¬ c < V j → SrOn V P' r c) := by
  have m1 : (-1 : Int32).toInt = -1 := rfl
  rcases h with ⟨a, b, d⟩ | ⟨k, a, b, d, f, g⟩
  · subst a b
    rw [i_lt, m1]
    refine ⟨fun q => Or.inr ⟨j, (e j).mpr (Or.inr rfl), rfl, rfl, by omega, fun i hi => ?_⟩, fun q => Or.inl ⟨rfl, rfl, fun i hi => ?_⟩⟩
    · rcases (e i).mp hi with q2 | q2
      · have := d i q2; left; omega
      · subst q2; right; exact ⟨rfl, Nat.le_refl _⟩
    · rcases (e i).mp hi with q2 | q2
      · exact d i q2
      · subst q2; omega
  · subst b d
    rw [i_lt]
    refine ⟨fun q => Or.inr ⟨j, (e j).mpr (Or.inr rfl), rfl, rfl, by omega, fun i hi => ?_⟩, fun q => Or.inr ⟨k, (e k).mpr (Or.inl a), rfl, rfl, f, fun i hi => ?_⟩⟩
    · rcases (e i).mp hi with q2 | q2
      · have := g i q2; left; omega
      · subst q2; right; exact ⟨rfl, Nat.le_refl _⟩
    · rcases (e i).mp hi with q2 | q2
      · exact g i q2
      · subst q2
        have := hj k a
        omega
def pw (l h : Nat) : Nat := 2 ^ l ||| 2 ^ h
theorem pw_lt {l h n : Nat} (hh : h < n) (hl : l ≤ h) : pw l h < 2 ^ n := Nat.or_lt_two_pow (Nat.pow_lt_pow_right (by decide) (by omega)) (Nat.pow_lt_pow_right (by decide) hh)
def pwB (h l h' l' : Nat) : Bool := !(decide (l ≤ h) && decide (l' ≤ h') && (decide (h' < h) || (decide (h' = h) && (decide (l < h) && (decide (l' = h') || decide (l' < l)))))) || decide (pw l' h' < pw l h)
theorem pw_all : (List.range 10).all (fun h => (List.range 10).all (fun l => (List.range 10).all (fun h' => (List.range 10).all (fun l' => pwB h l h' l')))) = true := by decide +kernel
theorem pw_ord {h l h' l' : Nat} (a : h < 10) (b : l ≤ h) (c : h' < 10) (d : l' ≤ h') (e : h' < h ∨ (h' = h ∧ l < h ∧ (l' = h' ∨ l' < l))) : pw l' h' < pw l h := by
  have q := List.all_eq_true.mp (List.all_eq_true.mp (List.all_eq_true.mp (List.all_eq_true.mp pw_all h (List.mem_range.mpr a)) l (List.mem_range.mpr (by omega))) h' (List.mem_range.mpr c)) l' (List.mem_range.mpr (by omega))
  unfold pwB at q
  rw [Bool.or_eq_true, decide_eq_true_iff] at q
  rcases q with q | q
  · exfalso
    simp [b, d] at q
    omega
  · exact q
def twoB (j : Nat) : Bool := j == 0 || (decide (popN (nI j) ≤ 2) == (List.range 10).any (fun h => (List.range (h + 1)).any (fun l => j == pw l h)))
theorem two_all : (List.range 1024).all twoB = true := by decide +kernel
def AlP (n : Nat) (j : Nat) : Prop := ∃ h l, h < n ∧ l ≤ h ∧ j = pw l h
theorem pw_bit {l h : Nat} : (pw l h).testBit h = true := by
  unfold pw
  rw [Nat.testBit_or, Nat.testBit_two_pow_self, Bool.or_true]
theorem two_ok {n j : Nat} (hn : n ≤ 10) (hj : j < 2 ^ n) (h0 : 0 < j) : popN (nI j) ≤ 2 ↔ AlP n j := by
  have hp : 2 ^ n ≤ 2 ^ 10 := Nat.pow_le_pow_right (by decide) hn
  have h := List.all_eq_true.mp two_all j (List.mem_range.mpr (by omega))
  unfold twoB at h
  rw [Bool.or_eq_true] at h
  rcases h with h | h
  · have := eq_of_beq h; omega
  · have h := eq_of_beq h
    rw [Bool.eq_iff_iff, decide_eq_true_iff] at h
    rw [h, List.any_eq_true]
    constructor
    · rintro ⟨a, ha, b⟩
      rw [List.any_eq_true] at b
      obtain ⟨l, hl, e⟩ := b
      have e := eq_of_beq e
      refine ⟨a, l, ?_, by have := List.mem_range.mp hl; omega, e⟩
      rcases Nat.lt_or_ge a n with r | r
      · exact r
      · have : j.testBit a = true := by rw [e]; exact pw_bit
        rw [Nat.testBit_lt_two_pow (Nat.lt_of_lt_of_le hj (Nat.pow_le_pow_right (by decide) r))] at this; cases this
    · rintro ⟨a, l, ha, hl, e⟩
      refine ⟨a, List.mem_range.mpr (by omega), ?_⟩
      rw [List.any_eq_true]
      exact ⟨l, List.mem_range.mpr (by omega), beq_iff_eq.mpr e⟩
section SRV
variable {C : cty} {w : Int32} {j : Nat}
theorem exOb {b : Nat} : ∀ n, obP (exC C w j) b n = obP C b n
  | 0 => rfl
  | n + 1 => by
    show obP (exC C w j) b n ||| (if bt (nI b) n = true then cF (exC C w j) 2 n else 0) = _
    rw [exOb n, exF (Or.inl (by omega))]; rfl
theorem exCh {b : Nat} : ∀ n, chP (exC C w j) b n = chP C b n
  | 0 => rfl
  | n + 1 => by
    show chP (exC C w j) b n * fct (exC C w j) b n = _
    have : fct (exC C w j) b n = fct C b n := by
      unfold fct
      rw [exF (Or.inl (by omega))]; rfl
    rw [exCh n, this]; rfl
theorem suN_b {wb : Nat} {C : cty} {mo : mty} {s : Nat} (hw : WFb wb C) : ∀ n, n ≤ 64 → 0 ≤ (suN C mo s n).toInt ∧ (suN C mo s n).toInt ≤ n * 1000000
  | 0, _ => ⟨Int.le_refl _, Int.le_refl _⟩
  | n + 1, hn => by
    obtain ⟨h1, h2⟩ := suN_b (mo := mo) (s := s) hw n (by omega)
    obtain ⟨c1, c2⟩ := chP_b hw n 6 (by omega)
    have c2' : (chP C n 6).toInt ≤ 1000000 := c2
    have e : suN C mo s (n + 1) = suN C mo s n + (if bt (upIfS C mo (obP C n (cP C))) s = true then chP C n 6 else 0) := rfl
    rw [e]
    have z : (0 : Int32).toInt = 0 := rfl
    split
    · rw [i_add (by omega) (by omega)]; omega
    · rw [i_add (by omega) (by omega), z]; omega
end SRV
/-- how sure the new stone would be by the first b choices; -1: it does not stand -/
noncomputable def srB (C : cty) (mo : mty) (w : Int32) (b j : Nat) : Int32 := if pB (NewP C mo mo.2.2.2 w.toInt j) = true then suN (exC C w j) (exM C mo) (cS C) b else -1
noncomputable def srV (C : cty) (mo : mty) (w : Int32) (j : Nat) : Int32 := srB C mo w (2 ^ cP C) j
noncomputable def moX (C : cty) (mo : mty) (x : Int32) : mty := (mo.1, mo.2.1 ||| (x &&& looseS C mo), mo.2.2.1, mo.2.2.2)
/-- what one more choice brings -/
theorem srB_s {C : cty} {mo : mty} {w : Int32} {b j : Nat} (hw : WF C) (hup : ∀ s, s < 32 → bt mo.2.2.2 s = true → s < cS C) :
    srB C mo w (b + 1) j = if pB (NewP C mo mo.2.2.2 w.toInt j) = true then (if upIfS C mo (obP C b (cP C)) = mo.2.2.2 ∧ pB (NewP C (moX C mo (obP C b (cP C))) mo.2.2.2 w.toInt j) = true then srB C mo w b j + chP C b 6 else srB C mo w b j) else -1 := by
  unfold srB
  by_cases q : pB (NewP C mo mo.2.2.2 w.toInt j) = true
  · rw [if_pos q, if_pos q, if_pos q]
    have e : suN (exC C w j) (exM C mo) (cS C) (b + 1) = suN (exC C w j) (exM C mo) (cS C) b + (if bt (upIfS (exC C w j) (exM C mo) (obP (exC C w j) b (cP (exC C w j)))) (cS C) = true then chP (exC C w j) b 6 else 0) := rfl
    rw [e, exOb, exCh]
    have e2 := ex_upIf (w := w) (j := j) hw hup (obP C b (cP C))
    have e3 : cP (exC C w j) = cP C := rfl
    rw [e3]
    by_cases q2 : bt (upIfS (exC C w j) (exM C mo) (obP C b (cP C))) (cS C) = true
    · have q3 := e2.mp q2
      rw [if_pos q2, if_pos ⟨q3.1, pB_t q3.2⟩]
    · rw [if_neg q2, if_neg (fun q3 => q2 (e2.mpr ⟨q3.1, by
        cases Classical.em (NewP C (moX C mo (obP C b (cP C))) mo.2.2.2 w.toInt j) with
        | inl h => exact h
        | inr h => rw [pB_f h] at q3; exact absurd q3.2 (by decide)⟩))]
      exact Int32.add_zero _
  · rw [if_neg q, if_neg q]
theorem srB_n {C : cty} {mo : mty} {w : Int32} {b j : Nat} (hw : WF C) (hW : 0 ≤ w.toInt ∧ w.toInt ≤ 99) (hj : j < 2 ^ cO C) (hb : b ≤ 64) : (pB (NewP C mo mo.2.2.2 w.toInt j) = true ∧ 0 ≤ (srB C mo w b j).toInt) ∨ (¬ pB (NewP C mo mo.2.2.2 w.toInt j) = true ∧ srB C mo w b j = -1) := by
  unfold srB
  by_cases q : pB (NewP C mo mo.2.2.2 w.toInt j) = true
  · left; rw [if_pos q]; exact ⟨q, (suN_b (wfEx hw hW hj) b hb).1⟩
  · right; rw [if_neg q]; exact ⟨q, rfl⟩
/-- what surest answers -/
def SrA (C : cty) (mo : mty) (w a r : Int32) : Prop := (¬ ((0 ≤ w ∧ w ≤ 99) ∧ 0 ≤ a ∧ a ≤ 1) ∧ r = -1) ∨ (((0 ≤ w ∧ w ≤ 99) ∧ 0 ≤ a ∧ a ≤ 1) ∧ ∃ s c, SrOn (srV C mo w) (AlP (cO C)) s c ∧ r = if a = 0 then c else s)
theorem SrA_one {C : cty} {mo : mty} {w a r r' : Int32} (h : SrA C mo w a r) (h' : SrA C mo w a r') : r = r' := by
  rcases h with ⟨q, e⟩ | ⟨q, s, c, h1, h2⟩ <;> rcases h' with ⟨q', e'⟩ | ⟨q', s', c', h1', h2'⟩
  · exact e.trans e'.symm
  · exact absurd q' q
  · exact absurd q q'
  · obtain ⟨e1, e2⟩ := SrOn_one h1 h1'
    subst e1 e2
    exact h2.trans h2'.symm
