/-! numbers: an int is an Int between -2^31 and 2^31, a long one between -2^63 and 2^63 -/
def w32 (x : Int) : Int := (x + 2147483648) % 4294967296 - 2147483648
def w64 (x : Int) : Int := (x + 9223372036854775808) % 18446744073709551616 - 9223372036854775808
def ok32 (x : Int) : Prop := -2147483648 ≤ x ∧ x < 2147483648
def ok64 (x : Int) : Prop := -9223372036854775808 ≤ x ∧ x < 9223372036854775808
theorem w32_ok (x : Int) : ok32 (w32 x) := by unfold ok32 w32; omega
theorem w64_ok (x : Int) : ok64 (w64 x) := by unfold ok64 w64; omega
theorem w32_id {x : Int} (h : -2147483648 ≤ x) (h' : x < 2147483648) : w32 x = x := by unfold w32; omega
theorem w64_id {x : Int} (h : -9223372036854775808 ≤ x) (h' : x < 9223372036854775808) : w64 x = x := by unfold w64; omega
theorem ok32_id {x : Int} (h : ok32 x) : w32 x = x := w32_id h.1 h.2
theorem ok64_id {x : Int} (h : ok64 x) : w64 x = x := w64_id h.1 h.2
theorem jn_toInt (x : Int) : (Int32.ofInt x).toInt = w32 x := by
  rw [Int32.toInt_ofInt, Int.bmod_def]
  unfold w32
  simp only [Int32.size]
  split <;> omega
theorem jl_toInt (x : Int) : (Int64.ofInt x).toInt = w64 x := by
  rw [Int64.toInt_ofInt, Int.bmod_def]
  unfold w64
  simp only [Int64.size]
  split <;> omega
theorem jn_ok (x : Int32) : ok32 x.toInt := by
  have := jn_toInt x.toInt
  rw [Int32.ofInt_toInt] at this
  rw [this]
  exact w32_ok _
theorem jl_ok (x : Int64) : ok64 x.toInt := by
  have := jl_toInt x.toInt
  rw [Int64.ofInt_toInt] at this
  rw [this]
  exact w64_ok _
theorem jn_w (x : Int) : Int32.ofInt (w32 x) = Int32.ofInt x := by
  apply Int32.toInt_inj.mp
  rw [jn_toInt, jn_toInt, ok32_id (w32_ok x)]
theorem jl_w (x : Int) : Int64.ofInt (w64 x) = Int64.ofInt x := by
  apply Int64.toInt_inj.mp
  rw [jl_toInt, jl_toInt, ok64_id (w64_ok x)]
theorem jn_inj {a b : Int} (ha : ok32 a) (hb : ok32 b) : Int32.ofInt a = Int32.ofInt b ↔ a = b := by
  constructor
  · intro h
    have h2 := congrArg Int32.toInt h
    rw [jn_toInt, jn_toInt, ok32_id ha, ok32_id hb] at h2
    exact h2
  · intro h; rw [h]
theorem jn_lt {a b : Int} (ha : ok32 a) (hb : ok32 b) : Int32.ofInt a < Int32.ofInt b ↔ a < b := by
  rw [Int32.lt_iff_toInt_lt, jn_toInt, jn_toInt, ok32_id ha, ok32_id hb]
theorem jn_le {a b : Int} (ha : ok32 a) (hb : ok32 b) : Int32.ofInt a ≤ Int32.ofInt b ↔ a ≤ b := by
  rw [Int32.le_iff_toInt_le, jn_toInt, jn_toInt, ok32_id ha, ok32_id hb]
theorem jl_inj {a b : Int} (ha : ok64 a) (hb : ok64 b) : Int64.ofInt a = Int64.ofInt b ↔ a = b := by
  constructor
  · intro h
    have h2 := congrArg Int64.toInt h
    rw [jl_toInt, jl_toInt, ok64_id ha, ok64_id hb] at h2
    exact h2
  · intro h; rw [h]
theorem jl_lt {a b : Int} (ha : ok64 a) (hb : ok64 b) : Int64.ofInt a < Int64.ofInt b ↔ a < b := by
  rw [Int64.lt_iff_toInt_lt, jl_toInt, jl_toInt, ok64_id ha, ok64_id hb]
theorem jn_zero : (0 : Int32) = Int32.ofInt 0 := rfl
theorem ok32_0 : ok32 0 := by unfold ok32; omega
/-! operations -/
def jadd (a b : Int) : Int := w32 (a + b)
def jsub (a b : Int) : Int := w32 (a - b)
def jmul (a b : Int) : Int := w32 (a * b)
def jneg (a : Int) : Int := w32 (-a)
def jdiv (a b : Int) : Int := (Int32.ofInt a / Int32.ofInt b).toInt
def jrem (a b : Int) : Int := (Int32.ofInt a - Int32.ofInt a / Int32.ofInt b * Int32.ofInt b).toInt
def jand (a b : Int) : Int := (Int32.ofInt a &&& Int32.ofInt b).toInt
def jor (a b : Int) : Int := (Int32.ofInt a ||| Int32.ofInt b).toInt
def jxor (a b : Int) : Int := (Int32.ofInt a ^^^ Int32.ofInt b).toInt
def jshl (a b : Int) : Int := (Int32.ofInt a <<< (Int32.ofInt b &&& 31)).toInt
def jshr (a b : Int) : Int := (Int32.ofInt a >>> (Int32.ofInt b &&& 31)).toInt
def jushr (a b : Int) : Int := ((Int32.ofInt a).toUInt32 >>> ((Int32.ofInt b).toUInt32 &&& Int32.toUInt32 31)).toInt32.toInt
def jladd (a b : Int) : Int := w64 (a + b)
def jlsub (a b : Int) : Int := w64 (a - b)
def jlmul (a b : Int) : Int := w64 (a * b)
def jland (a b : Int) : Int := (Int64.ofInt a &&& Int64.ofInt b).toInt
def jlor (a b : Int) : Int := (Int64.ofInt a ||| Int64.ofInt b).toInt
def jlxor (a b : Int) : Int := (Int64.ofInt a ^^^ Int64.ofInt b).toInt
def jlshl (a b : Int) : Int := (Int64.ofInt a <<< ((Int32.ofInt b).toInt64 &&& 63)).toInt
def jlshr (a b : Int) : Int := (Int64.ofInt a >>> ((Int32.ofInt b).toInt64 &&& 63)).toInt
def jlushr (a b : Int) : Int := ((Int64.ofInt a).toUInt64 >>> ((Int32.ofInt b).toInt64.toUInt64 &&& Int64.toUInt64 63)).toInt64.toInt
def ji2l (a : Int) : Int := a
def jl2i (a : Int) : Int := w32 a
def ji2b (a : Int) : Int := (Int32.ofInt a).toInt8.toInt32.toInt
def ji2c (a : Int) : Int := ((Int32.ofInt a).toUInt32 % 65536).toInt32.toInt
def jcmp (a b : Int) : Int := if b < a then 1 else if a = b then 0 else -1
theorem jn_add (a b : Int) : Int32.ofInt a + Int32.ofInt b = Int32.ofInt (jadd a b) := by rw [jadd, jn_w, Int32.ofInt_add]
theorem jn_sub (a b : Int) : Int32.ofInt a - Int32.ofInt b = Int32.ofInt (jsub a b) := by rw [jsub, jn_w, Int32.ofInt_sub]
theorem jn_mul (a b : Int) : Int32.ofInt a * Int32.ofInt b = Int32.ofInt (jmul a b) := by rw [jmul, jn_w, Int32.ofInt_mul]
theorem jn_neg (a : Int) : -Int32.ofInt a = Int32.ofInt (jneg a) := by rw [jneg, jn_w, Int32.ofInt_neg]
theorem jl_add (a b : Int) : Int64.ofInt a + Int64.ofInt b = Int64.ofInt (jladd a b) := by rw [jladd, jl_w, Int64.ofInt_add]
theorem jl_sub (a b : Int) : Int64.ofInt a - Int64.ofInt b = Int64.ofInt (jlsub a b) := by rw [jlsub, jl_w, Int64.ofInt_sub]
theorem jl_mul (a b : Int) : Int64.ofInt a * Int64.ofInt b = Int64.ofInt (jlmul a b) := by rw [jlmul, jl_w, Int64.ofInt_mul]
theorem jl_i2l {a : Int} (ha : ok32 a) : (Int32.ofInt a).toInt64 = Int64.ofInt (ji2l a) := by
  apply Int64.toInt_inj.mp
  rw [Int32.toInt_toInt64, jn_toInt, jl_toInt, ok32_id ha, ji2l, w64_id] <;> (have := ha.1; have := ha.2; omega)
theorem jl_l2i (a : Int) : (Int64.ofInt a).toInt32 = Int32.ofInt (jl2i a) := by rw [jl2i, jn_w, Int64.toInt32_ofInt]
theorem jl_cmp {a b : Int} (ha : ok64 a) (hb : ok64 b) : lg_cmp (Int64.ofInt a) (Int64.ofInt b) = Int32.ofInt (jcmp a b) := by
  unfold lg_cmp jcmp
  simp only [GT.gt, jl_lt ha hb, jl_lt hb ha]
  by_cases h1 : b < a
  · simp [h1]
  · by_cases h2 : a = b
    · subst h2; simp
    · have h3 : a < b := by omega
      simp [h1, h2, jl_inj ha hb]
