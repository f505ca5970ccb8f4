/-! one stone more -/
theorem cX_c {c : Nat → Int} {O O' : Nat → Bool} (h : ∀ o, o < 10 → O o = O' o) : cX c O = cX c O' := sm_c (fun o ho => by rw [h o ho])
theorem hall_new {w w' : Nat → Int} {R R' : Nat → Nat → Bool} {c : Nat → Int} {U U' : Nat → Bool} {n : Nat} (hn : n < 11) (hU : U n = false) (hU' : ∀ s, U' s = (U s || decide (s = n))) (hw : ∀ s, s < 11 → U s = true → w' s = w s) (hR : ∀ s, s < 11 → U s = true → ∀ o, o < 10 → R' s o = R s o) :
    Hall w' R' c U' ↔ Hall w R c U ∧ ∀ X : Nat → Bool, (∀ s, X s = true → U s = true) → wX w X + w' n ≤ cX c (fun o => nb R X o || R' n o) := by
  have hne : ∀ s, U s = true → s ≠ n := fun s q e => by rw [e, hU] at q; cases q
  have A : ∀ X : Nat → Bool, (∀ s, X s = true → U s = true) → wX w' X = wX w X ∧ cX c (nb R' X) = cX c (nb R X) := fun X hX => by
    refine ⟨sm_c (fun s hs => ?_), cX_c (fun o ho => ?_)⟩
    · cases e : X s
      · rfl
      · simp only [if_true]; exact hw s hs (hX s e)
    · rw [Bool.eq_iff_iff, nb_iff, nb_iff]
      exact ⟨fun ⟨s, a, b, d⟩ => ⟨s, a, b, by rw [← hR s a (hX s b) o ho]; exact d⟩, fun ⟨s, a, b, d⟩ => ⟨s, a, b, by rw [hR s a (hX s b) o ho]; exact d⟩⟩
  have B : ∀ X Y : Nat → Bool, (∀ s, Y s = true → U s = true) → (∀ s, X s = (Y s || decide (s = n))) → wX w' X = wX w Y + w' n ∧ cX c (nb R' X) = cX c (fun o => nb R Y o || R' n o) := fun X Y hY hX => by
    refine ⟨?_, cX_c (fun o ho => ?_)⟩
    · have e1 : wX w' X = sm 11 (fun s => if s = n then w' n else (if Y s then w s else 0)) := sm_c (fun s hs => by
        rw [hX s]
        by_cases e : s = n
        · subst e; simp
        · rw [if_neg e]
          cases e2 : Y s
          · simp [e]
          · simp; exact hw s hs (hY s e2))
      have e2 : Y n = false := by
        cases e : Y n
        · rfl
        · exact absurd rfl (hne n (hY n e))
      rw [e1, sm_set hn, e2]
      show wX w Y - 0 + w' n = _
      omega
    · rw [Bool.eq_iff_iff, Bool.or_eq_true, nb_iff, nb_iff]
      constructor
      · rintro ⟨s, a, b, d⟩
        rw [hX s, Bool.or_eq_true, decide_eq_true_iff] at b
        rcases b with b | b
        · exact Or.inl ⟨s, a, b, by rw [← hR s a (hY s b) o ho]; exact d⟩
        · subst b; exact Or.inr d
      · rintro (⟨s, a, b, d⟩ | d)
        · exact ⟨s, a, by rw [hX s, b]; rfl, by rw [hR s a (hY s b) o ho]; exact d⟩
        · exact ⟨n, hn, by rw [hX n]; simp, d⟩
  constructor
  · refine fun h => ⟨fun X hX => ?_, fun X hX => ?_⟩
    · have := h X (fun s q => by rw [hU' s, hX s q]; rfl)
      rw [(A X hX).1, (A X hX).2] at this; exact this
    · have := h (fun s => X s || decide (s = n)) (fun s q => by
        rw [hU' s]
        rw [Bool.or_eq_true] at q ⊢
        exact q.imp (hX s) id)
      obtain ⟨b1, b2⟩ := B (fun s => X s || decide (s = n)) X hX (fun _ => rfl)
      rw [b1, b2] at this; exact this
  · rintro ⟨h1, h2⟩ X hX
    cases e : X n
    · have hX' : ∀ s, X s = true → U s = true := fun s q => by
        have := hX s q
        rw [hU' s, Bool.or_eq_true, decide_eq_true_iff] at this
        rcases this with a | a
        · exact a
        · rw [a, e] at q; cases q
      rw [(A X hX').1, (A X hX').2]; exact h1 X hX'
    · have hY : ∀ s, (X s && !decide (s = n)) = true → U s = true := fun s q => by
        simp at q
        have := hX s q.1
        rw [hU' s, Bool.or_eq_true, decide_eq_true_iff] at this
        rcases this with a | a
        · exact a
        · exact absurd a q.2
      obtain ⟨b1, b2⟩ := B X (fun s => X s && !decide (s = n)) hY (fun s => by
        by_cases q : s = n
        · subst q; simp [e]
        · simp [q])
      rw [b1, b2]; exact h2 _ hY
/-- the city with a stone more, on the oaths j alone -/
def exC (C : cty) (w : Int32) (j : Nat) : cty := ((cP C, cO C, cS C + 1), C.2.1, (fun f i => if i = cS C ∧ 8 ≤ f then (if f = 8 then w else if f = 10 then nI j else 0) else cF C f i), cLw C)
def exU (C : cty) (up : Int32) : Int32 := up ||| ((1 : Int32) <<< (nI (cS C) &&& 31))
def exM (C : cty) (mo : mty) : mty := (mo.1, mo.2.1, mo.2.2.1, exU C mo.2.2.2)
section EX
variable {C : cty} {w : Int32} {j : Nat}
theorem exF {f i : Nat} (h : f < 8 ∨ i ≠ cS C) : cF (exC C w j) f i = cF C f i := by
  show (if i = cS C ∧ 8 ≤ f then (if f = 8 then w else if f = 10 then nI j else 0) else cF C f i) = _
  rw [if_neg (by omega)]
theorem exF8 : cF (exC C w j) 8 (cS C) = w := by
  show (if cS C = cS C ∧ 8 ≤ 8 then (if 8 = 8 then w else if 8 = 10 then nI j else 0) else cF C 8 (cS C)) = _
  rw [if_pos ⟨rfl, by omega⟩, if_pos rfl]
theorem exF9 : cF (exC C w j) 9 (cS C) = 0 := by
  show (if cS C = cS C ∧ 8 ≤ 9 then (if 9 = 8 then w else if 9 = 10 then nI j else 0) else cF C 9 (cS C)) = _
  rw [if_pos ⟨rfl, by omega⟩, if_neg (by omega), if_neg (by omega)]
theorem exF10 : cF (exC C w j) 10 (cS C) = nI j := by
  show (if cS C = cS C ∧ 8 ≤ 10 then (if 10 = 8 then w else if 10 = 10 then nI j else 0) else cF C 10 (cS C)) = _
  rw [if_pos ⟨rfl, by omega⟩, if_neg (by omega), if_pos rfl]
theorem exF11 : cF (exC C w j) 11 (cS C) = 0 := by
  show (if cS C = cS C ∧ 8 ≤ 11 then (if 11 = 8 then w else if 11 = 10 then nI j else 0) else cF C 11 (cS C)) = _
  rw [if_pos ⟨rfl, by omega⟩, if_neg (by omega), if_neg (by omega)]
theorem exStr {mo : mty} (x : Nat) : strS (exC C w j) mo x = strS C mo x := by
  have e : ∀ f i, f < 8 → cF (exC C w j) f i = cF C f i := fun f i h => exF (Or.inl h)
  have e2 : cLw (exC C w j) = cLw C := rfl
  have e3 : cMd (exC C w j) = cMd C := rfl
  simp only [strS, strF, strV, aloneS, e2, e3, e 2 _ (by omega), e 3 _ (by omega), e 4 _ (by omega), e 5 _ (by omega), e 6 _ (by omega)]
theorem exK {mo : mty} : kS (exC C w j) mo = kS C mo := by
  funext o
  unfold kS
  rw [exStr]; rfl
theorem ex_b {up : Int32} (hS : cS C ≤ 10) {i : Nat} (hi : i < 32) : bt (exU C up) i = (bt up i || decide (i = cS C)) := by
  unfold exU
  rw [b_or, b_one (by omega) hi]
theorem ex_up {up : Int32} (hS : cS C ≤ 10) (hup : ∀ s, s < 32 → bt up s = true → s < cS C) : ∀ s, s < 32 → bt (exU C up) s = true → s < cS C + 1 := fun s hs q => by
  rw [ex_b hS hs, Bool.or_eq_true, decide_eq_true_iff] at q
  rcases q with q | q
  · have := hup s hs q; omega
  · omega
theorem wfEx (hw : WF C) (hW : 0 ≤ w.toInt ∧ w.toInt ≤ 99) (hj : j < 2 ^ cO C) : WFb 11 (exC C w j) := by
  have e : ∀ f i, f < 8 → cF (exC C w j) f i = cF C f i := fun f i h => exF (Or.inl h)
  obtain ⟨⟨h1, h2, h3, h4⟩, h5, h6, h7, h8⟩ := hw
  refine ⟨⟨h1, h2, by show cS C + 1 ≤ 11; omega, h4⟩, fun p hp => ?_, fun x hx => ?_, fun x hx => ?_, fun s hs => ?_⟩
  · rw [e 0 _ (by omega), e 1 _ (by omega), e 2 _ (by omega)]
    refine ⟨(h5 p hp).1, (h5 p hp).2.1, fun x hx => ?_⟩
    rw [e 4 _ (by omega)]; exact (h5 p hp).2.2 x hx
  · rw [e 3 _ (by omega), e 4 _ (by omega), e 6 _ (by omega), e 7 _ (by omega)]; exact h6 x hx
  · rw [e 3 _ (by omega)]; exact h7 x hx
  · by_cases q : s = cS C
    · subst q
      rw [exF8, exF9, exF10, exF11]
      refine ⟨hW, by decide, fun x hx q => ?_, fun t ht q => by rw [b_0] at q; cases q⟩
      rw [b_nI hx] at q
      rcases Nat.lt_or_ge x (cO C) with r | r
      · exact r
      · rw [Nat.testBit_lt_two_pow (Nat.lt_of_lt_of_le hj (Nat.pow_le_pow_right (by decide) r))] at q; cases q
    · have hs' : s < cS C := by
        have : s < cS C + 1 := hs
        omega
      rw [exF (f := 8) (Or.inr q), exF (f := 9) (Or.inr q), exF (f := 10) (Or.inr q), exF (f := 11) (Or.inr q)]
      exact h8 s hs'
theorem rsa_0 {b : Int32} {f : Nat → Int32} {x : Int32} (n : Nat) (h : ∀ t, t < n → bt b t = false) : rsa b f n x = x := b_ext (fun i _ => by
  rw [Bool.eq_iff_iff, rsa_b]
  exact ⟨fun q => q.elim id (fun ⟨t, a, c, _⟩ => by rw [h t a] at c; cases c), Or.inl⟩)
theorem ex_rn {up : Int32} : rS (exC C w j) up (cS C) = nI j := by
  unfold rS
  rw [rs_eq, exF11, exF10]
  exact rsa_0 _ (fun t _ => by rw [b_and, b_0]; rfl)
theorem ex_rs {up : Int32} (hS : cS C ≤ 10) {s : Nat} (hs : s < cS C) : rS (exC C w j) (exU C up) s = rS C up s := by
  unfold rS
  exact rs_c (n := cS C) (fun t ht => ⟨exF (Or.inr (by omega)), exF (Or.inr (by omega))⟩) (fun t ht => by
    rw [ex_b hS (by omega)]
    have : decide (t = cS C) = false := decide_eq_false (by omega)
    rw [this, Bool.or_false]) s hs
/-- the new stone finds its room beside those up -/
def NewP (C : cty) (mo : mty) (up : Int32) (w : Int) (j : Nat) : Prop := ∀ X : Nat → Bool, (∀ s, X s = true → upB up 11 s = true) → wX (wS C) X + w ≤ cX (kS C mo) (fun o => nb (rB C up) X o || j.testBit o)
theorem upB_lt {up : Int32} (hup : ∀ s, s < 32 → bt up s = true → s < cS C) {s : Nat} (h : upB up 11 s = true) : s < cS C := by
  unfold upB at h; simp at h; exact hup s (lt32 h.1) h.1
theorem ex_hall {mo : mty} {up : Int32} (hw : WF C) (hup : ∀ s, s < 32 → bt up s = true → s < cS C) : HallU (exC C w j) mo (exU C up) 11 ↔ HallU C mo up 11 ∧ NewP C mo up w.toInt j := by
  have hS := hw.1.2.2.1
  unfold HallU NewP
  rw [exK]
  have hn : upB up 11 (cS C) = false := by
    cases e : upB up 11 (cS C)
    · rfl
    · have := upB_lt hup e; omega
  have hlt : ∀ s, upB up 11 s = true → s < cS C := fun s q => upB_lt hup q
  rw [hall_new (w := wS C) (R := rB C up) (U := upB up 11) (n := cS C) (by omega) hn (fun s => ?_) (fun s hs q => ?_) (fun s hs q o ho => ?_)]
  · have e1 : wS (exC C w j) (cS C) = w.toInt := by
      unfold wS
      rw [if_pos (show cS C < cS (exC C w j) by show cS C < cS C + 1; omega), exF8]
    have e2 : ∀ o, o < 10 → rB (exC C w j) (exU C up) (cS C) o = j.testBit o := fun o ho => by
      unfold rB
      rw [ex_rn, b_nI (by omega)]
      show (decide (cS C < cS C + 1) && _) = _
      simp
    rw [e1]
    refine and_congr Iff.rfl (forall_congr' (fun X => imp_congr Iff.rfl ?_))
    rw [cX_c (O := fun o => nb (rB C up) X o || rB (exC C w j) (exU C up) (cS C) o) (O' := fun o => nb (rB C up) X o || j.testBit o) (fun o ho => by rw [e2 o ho])]
  · unfold upB
    rcases Nat.lt_or_ge s 32 with h | h
    · rw [ex_b hS h]
      by_cases q : s = cS C
      · subst q; simp; omega
      · simp [q]
    · rw [b_big h, b_big h]
      have : decide (s = cS C) = false := decide_eq_false (by omega)
      rw [this]; rfl
  · have := hlt s q
    unfold wS
    rw [if_pos (show s < cS (exC C w j) by show s < cS C + 1; omega), if_pos this, exF (Or.inr (by omega))]
  · have := hlt s q
    unfold rB
    rw [ex_rs hS this]
    show (decide (s < cS C + 1) && _) = _
    rw [decide_eq_true this, decide_eq_true (show s < cS C + 1 by omega)]
theorem fallN_in {mo : mty} {up : Int32} {i : Nat} (hi : i < 32) : ∀ m, m ≤ 11 → bt (fallN C mo up m) i = true → ∃ k, k ≤ m ∧ i < k ∧ HallU C mo up k
  | 0, _, h => by
    rw [show fallN C mo up 0 = 0 from rfl, b_0] at h; cases h
  | m + 1, hm, h => by
    by_cases q : HallU C mo up (m + 1)
    · rw [fallN_t q, rst_b (by omega) hi, Bool.and_eq_true, decide_eq_true_iff] at h
      exact ⟨m + 1, Nat.le_refl _, h.2, q⟩
    · rw [fallN_f q] at h
      obtain ⟨k, a, b, c⟩ := fallN_in hi m (by omega) h
      exact ⟨k, by omega, b, c⟩
theorem fall_top {mo : mty} {up : Int32} {n : Nat} (hn : n < 11) (hup : ∀ s, s < 32 → bt up s = true → s < n + 1) (ht : bt up n = true) : bt (fallS C mo up) n = true ↔ HallU C mo up 11 := by
  constructor
  · intro h
    obtain ⟨k, a, b, c⟩ := fallN_in (by omega) 11 (Nat.le_refl _) h
    unfold HallU at c ⊢
    rw [← upB_c (m := k) (n := 11) a (fun s h1 h2 => by
      cases e : bt up s
      · rfl
      · have := hup s (by omega) e; omega)]
    exact c
  · intro h
    rw [fallS_up (fun s hs q => by have := hup s hs q; omega) h]; exact ht
/-- the new stone is up behind this break -/
theorem ex_upIf {mo : mty} (hw : WF C) (hup : ∀ s, s < 32 → bt mo.2.2.2 s = true → s < cS C) (x : Int32) : bt (upIfS (exC C w j) (exM C mo) x) (cS C) = true ↔ upIfS C mo x = mo.2.2.2 ∧ NewP C (mo.1, mo.2.1 ||| (x &&& looseS C mo), mo.2.2.1, mo.2.2.2) mo.2.2.2 w.toInt j := by
  have hS := hw.1.2.2.1
  have e1 : upIfS (exC C w j) (exM C mo) x = fallS (exC C w j) (mo.1, mo.2.1 ||| (x &&& looseS C mo), mo.2.2.1, exU C mo.2.2.2) (exU C mo.2.2.2) := rfl
  rw [e1, fall_top (n := cS C) (by omega) (ex_up hS hup) (by rw [ex_b hS (by omega)]; simp), ex_hall hw hup]
  unfold upIfS
  rw [fallS_iff (fun s hs q => by have := hup s hs q; omega)]
  exact Iff.rfl
end EX
