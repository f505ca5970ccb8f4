/-! the draw -/
def nxQ (q : Nat) : Nat := (q * 1103515245 + 12345) % 2147483648
def drQ (q : Nat) : Nat := (nxQ q / 65536) % 10
theorem nxQ_b (q : Nat) : nxQ q < 2147483648 := Nat.mod_lt _ (by decide)
theorem drQ_b (q : Nat) : drQ q < 10 := Nat.mod_lt _ (by decide)
theorem lNt {q : Nat} (h : q < 2 ^ 63) : (lN q).toInt = q := lg_ofNat_toInt (by omega)
theorem l_add {a b : Int64} (h1 : -9223372036854775808 ≤ a.toInt + b.toInt) (h2 : a.toInt + b.toInt < 9223372036854775808) : (a + b).toInt = a.toInt + b.toInt := by
  rw [Int64.toInt_add, Int.bmod_eq_of_le (by omega) (by omega)]
theorem l_sub {a b : Int64} (h1 : -9223372036854775808 ≤ a.toInt - b.toInt) (h2 : a.toInt - b.toInt < 9223372036854775808) : (a - b).toInt = a.toInt - b.toInt := by
  rw [Int64.toInt_sub, Int.bmod_eq_of_le (by omega) (by omega)]
theorem l_mul {a b : Int64} (h1 : -9223372036854775808 ≤ a.toInt * b.toInt) (h2 : a.toInt * b.toInt < 9223372036854775808) : (a * b).toInt = a.toInt * b.toInt := by
  rw [Int64.toInt_mul, Int.bmod_eq_of_le (by omega) (by omega)]
theorem lN_div {a d : Nat} (ha : a < 2 ^ 62) (h0 : 0 < d) (hd : d < 2 ^ 31) : lN a / lN d = lN (a / d) := by
  apply Int64.toInt_inj.mp
  have hb : a / d ≤ a := Nat.div_le_self a d
  have e0 : ((a : Int).tdiv (d : Int)) = ((a / d : Nat) : Int) := by
    rw [Int.tdiv_eq_ediv_of_nonneg (by omega)]; exact (Int.natCast_ediv a d).symm
  have h63 : a / d < 2 ^ 63 := by
    generalize a / d = c at hb
    omega
  rw [Int64.toInt_div, lNt (by omega), lNt (by omega), lNt h63, e0]
  clear e0
  generalize a / d = c at hb ⊢
  exact Int.bmod_eq_of_le (by omega) (by omega)
theorem nI_64 {q : Nat} (h : q < 2 ^ 31) : Int32.toInt64 (nI q) = lN q := by
  apply Int64.toInt_inj.mp
  rw [Int32.toInt_toInt64, nI_toInt h, lNt (by omega)]
theorem modE (a d : Nat) : a - a / d * d = a % d := by
  have := Nat.div_add_mod a d
  have e : a / d * d = d * (a / d) := Nat.mul_comm _ _
  omega
theorem dr64 {q : Nat} (hq : q < 2147483648) : (lN q * (1103515245 : Int64) + (12345 : Int64)) - (lN q * (1103515245 : Int64) + (12345 : Int64)) / (2147483648 : Int64) * (2147483648 : Int64) = lN (nxQ q) := by
  show (lN q * lN 1103515245 + lN 12345) - (lN q * lN 1103515245 + lN 12345) / lN 2147483648 * lN 2147483648 = _
  have hb : q * 1103515245 + 12345 < 2 ^ 62 := by omega
  have hd : (q * 1103515245 + 12345) / 2147483648 * 2147483648 ≤ q * 1103515245 + 12345 := Nat.div_mul_le_self _ _
  rw [lN_mul, lN_add]
  have e0 : lN (q * 1103515245 + 12345) / lN 2147483648 = lN ((q * 1103515245 + 12345) / 2147483648) := by
    apply Int64.toInt_inj.mp
    have hb' : (q * 1103515245 + 12345) / 2147483648 ≤ q * 1103515245 + 12345 := Nat.div_le_self _ _
    have e0 : (((q * 1103515245 + 12345 : Nat) : Int).tdiv ((2147483648 : Nat) : Int)) = (((q * 1103515245 + 12345) / 2147483648 : Nat) : Int) := by
      rw [Int.tdiv_eq_ediv_of_nonneg (by omega)]; exact (Int.natCast_ediv _ _).symm
    rw [Int64.toInt_div, lNt (by omega), lNt (by omega), lNt (by omega), e0]
    exact Int.bmod_eq_of_le (by omega) (by omega)
  rw [e0, lN_mul, lN_sub hd, modE]; rfl
theorem dr64b {q : Nat} (hq : q < 2147483648) : (lN q / (65536 : Int64)) - (lN q / (65536 : Int64)) / lN 10 * lN 10 = lN (q / 65536 % 10) := by
  show (lN q / lN 65536) - (lN q / lN 65536) / lN 10 * lN 10 = _
  have h1 : q / 65536 ≤ q := Nat.div_le_self _ _
  have hd : q / 65536 / 10 * 10 ≤ q / 65536 := Nat.div_mul_le_self _ _
  rw [lN_div (by omega) (by decide) (by decide), lN_div (by omega) (by decide) (by decide), lN_mul, lN_sub hd, modE]
theorem dr32 {q : Nat} : (nI q * (1103515245 : Int32) + (12345 : Int32)) &&& (2147483647 : Int32) = nI (nxQ q) := by
  show (nI q * nI 1103515245 + nI 12345) &&& nI 2147483647 = _
  rw [pk_mul, nI_add, nx_and]
  have : (q * 1103515245 + 12345) &&& 2147483647 = (q * 1103515245 + 12345) % 2 ^ 31 := Nat.and_two_pow_sub_one_eq_mod _ 31
  rw [this]; rfl
theorem dr32b {q : Nat} (hq : q < 2147483648) : (nI q / (65536 : Int32)) - (nI q / (65536 : Int32)) / (10 : Int32) * (10 : Int32) = nI (q / 65536 % 10) := by
  show (nI q / nI 65536) - (nI q / nI 65536) / nI 10 * nI 10 = _
  have h1 : q / 65536 ≤ q := Nat.div_le_self _ _
  have hd : q / 65536 / 10 * 10 ≤ q / 65536 := Nat.div_mul_le_self _ _
  rw [pk_div (by omega) (by decide) (by decide), pk_div (by omega) (by decide) (by decide), pk_mul, pk_sub hd, modE]
theorem draw_ok {F : Nat} {M : mm} {q : Nat} (h : M.1 8 0 11 = nI q) : ok (m_X7_draw F M) (fun r => r = (nI (drQ q), sI M 8 0 11 (nI (nxQ q)))) := by
  unfold m_X7_draw
  rw [ok_nm, ok_some, h, dr32, rII, if_pos ⟨rfl, rfl, rfl⟩, dr32b (nxQ_b q)]; rfl
theorem draws_ok {F : Nat} {M : mm} {q : Nat} (hq : q < 2147483648) (h : M.2.1 13 0 62 = lN q) : ok (m_X12_draws F (10 : Int32) M) (fun r => r = (nI (drQ q), sL M 13 0 62 (lN (nxQ q)))) := by
  unfold m_X12_draws
  have e10 : Int32.toInt64 (10 : Int32) = lN 10 := nI_64 (q := 10) (by decide)
  rw [ok_nm, h, dr64 hq, e10]
  unfold gq
  rw [if_neg (by decide), ok_some, rLL, if_pos ⟨rfl, rfl, rfl⟩, dr64b (nxQ_b q), lN_i]; rfl
