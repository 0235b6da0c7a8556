/-! bits of a long: how many, which is the lowest -/
def uv (v : Int) : Nat := (v % 18446744073709551616).toNat
theorem uv_bv (v : Int) : (BitVec.ofInt 64 v).toNat = uv v := BitVec.toNat_ofInt v
theorem uv_lt (v : Int) : uv v < 18446744073709551616 := by unfold uv; omega
theorem bt_uv (v : Int) (i : Nat) : bt v i = (uv v).testBit i := by
  unfold bt
  rw [← BitVec.testBit_toNat, uv_bv]
theorem uv_add (a b : Int) : uv (jladd a b) = (uv a + uv b) % 18446744073709551616 := by unfold uv jladd w64; omega
theorem uv_sub {a b : Int} (h : uv b ≤ uv a) : uv (jlsub a b) = uv a - uv b := by unfold uv jlsub w64 at *; omega
theorem uv_and (a b : Int) : uv (jland a b) = uv a &&& uv b := by
  unfold jland
  rw [← uv_bv, bv_of, Int64.toBitVec_and, Int64.toBitVec_ofInt, Int64.toBitVec_ofInt, BitVec.toNat_and, uv_bv, uv_bv]
theorem uv_shr (a s : Int) (k : Nat) (hk : k < 64) (hs : ((Int32.ofInt s).toInt64.toUInt64 &&& Int64.toUInt64 63).toNat = k) : uv (jlushr a s) = uv a / 2 ^ k := by
  unfold jlushr
  rw [← uv_bv, bv_of]
  show (((Int64.ofInt a).toUInt64 >>> ((Int32.ofInt s).toInt64.toUInt64 &&& Int64.toUInt64 63)).toBitVec).toNat = _
  rw [UInt64.toNat_toBitVec, UInt64.toNat_shiftRight, hs, Nat.mod_eq_of_lt hk, Nat.shiftRight_eq_div_pow]
  congr 1
/-- counting bits -/
def bc (f : Nat → Bool) : Nat → Nat
  | 0 => 0
  | n + 1 => bc f n + (if f n = true then 1 else 0)
theorem bc_succ (f : Nat → Bool) (n : Nat) : bc f (n + 1) = bc f n + (if f n = true then 1 else 0) := rfl
theorem bc_split (f : Nat → Bool) (a : Nat) : ∀ b, bc f (a + b) = bc f a + bc (fun i => f (a + i)) b := by
  intro b
  induction b with
  | zero => rfl
  | succ b ih =>
    rw [← Nat.add_assoc, bc_succ, bc_succ, ih]
    omega
theorem bc_congr {f g : Nat → Bool} : ∀ n, (∀ i, i < n → f i = g i) → bc f n = bc g n := by
  intro n
  induction n with
  | zero => intro _; rfl
  | succ n ih =>
    intro h
    unfold bc
    rw [ih (fun i hi => h i (by omega)), h n (by omega)]
theorem bc_le (f : Nat → Bool) : ∀ n, bc f n ≤ n := by
  intro n
  induction n with
  | zero => exact Nat.le_refl _
  | succ n ih => unfold bc; split <;> omega
def msk (c : Nat) : Nat → Nat
  | 0 => 0
  | k + 1 => 256 * msk c k + c
theorem msk_v : msk 85 8 = 6148914691236517205 ∧ msk 51 8 = 3689348814741910323 ∧ msk 15 8 = 1085102592571150095 := by decide
def g1 (k n : Nat) : Nat := n - (n / 2 &&& msk 85 k)
def g2 (k n : Nat) : Nat := (g1 k n &&& msk 51 k) + (g1 k n / 4 &&& msk 51 k)
def g3 (k n : Nat) : Nat := (g2 k n + g2 k n / 16) &&& msk 15 k
theorem and_256 (a b c d : Nat) (hb : b < 256) (hd : d < 256) : (256 * a + b) &&& (256 * c + d) = 256 * (a &&& c) + (b &&& d) := by
  have h1 : ((256 * a + b) &&& (256 * c + d)) / 2 ^ 8 = a &&& c := by
    rw [Nat.and_div_two_pow, show (256 * a + b) / 2 ^ 8 = a by omega, show (256 * c + d) / 2 ^ 8 = c by omega]
  have h2 : ((256 * a + b) &&& (256 * c + d)) % 2 ^ 8 = b &&& d := by
    rw [Nat.and_mod_two_pow, show (256 * a + b) % 2 ^ 8 = b by omega, show (256 * c + d) % 2 ^ 8 = d by omega]
  have : (2 : Nat) ^ 8 = 256 := rfl
  omega
theorem g_t1 : ∀ r : Nat, r < 256 → ∀ c : Nat, c < 2 → (128 * c + r / 2) &&& 85 = r / 2 &&& 85 := by decide +kernel
theorem g_t2 : ∀ r : Nat, r < 256 → ∀ c : Nat, c < 4 → (64 * c + r / 4) &&& 51 = r / 4 &&& 51 := by decide +kernel
def b1 (r : Nat) : Nat := r - (r / 2 &&& 85)
def b2 (r : Nat) : Nat := (b1 r &&& 51) + (b1 r / 4 &&& 51)
def pc8 (r : Nat) : Nat := bc (fun i => r.testBit i) 8
theorem b_lt : ∀ r : Nat, r < 256 → b1 r < 256 ∧ b2 r ≤ 102 := by decide +kernel
theorem g_t3 : ∀ r : Nat, r < 256 → ∀ c : Nat, c < 7 → (b2 r + 16 * c + b2 r / 16) &&& 15 = pc8 r := by decide +kernel
theorem pc8_le : ∀ r : Nat, r < 256 → pc8 r ≤ 8 := by decide +kernel
theorem g1_s (k m r : Nat) (hr : r < 256) : g1 (k + 1) (256 * m + r) = 256 * g1 k m + b1 r := by
  unfold g1 b1
  have e : (256 * m + r) / 2 &&& msk 85 (k + 1) = 256 * (m / 2 &&& msk 85 k) + (r / 2 &&& 85) := by
    conv => lhs; rhs; unfold msk
    rw [show (256 * m + r) / 2 = 256 * (m / 2) + (128 * (m % 2) + r / 2) by omega, and_256 _ _ _ _ (by omega) (by omega), g_t1 r hr (m % 2) (by omega)]
  rw [e]
  have l1 : m / 2 &&& msk 85 k ≤ m / 2 := Nat.and_le_left
  have l2 : r / 2 &&& 85 ≤ r / 2 := Nat.and_le_left
  omega
theorem g2_s (k m r : Nat) (hr : r < 256) : g2 (k + 1) (256 * m + r) = 256 * g2 k m + b2 r := by
  unfold g2 b2
  rw [g1_s k m r hr]
  have hb := (b_lt r hr).1
  have e1 : (256 * g1 k m + b1 r) &&& msk 51 (k + 1) = 256 * (g1 k m &&& msk 51 k) + (b1 r &&& 51) := by
    conv => lhs; rhs; unfold msk
    rw [and_256 _ _ _ _ hb (by omega)]
  have e2 : (256 * g1 k m + b1 r) / 4 &&& msk 51 (k + 1) = 256 * (g1 k m / 4 &&& msk 51 k) + (b1 r / 4 &&& 51) := by
    conv => lhs; rhs; unfold msk
    rw [show (256 * g1 k m + b1 r) / 4 = 256 * (g1 k m / 4) + (64 * (g1 k m % 4) + b1 r / 4) by omega, and_256 _ _ _ _ (by omega) (by omega), g_t2 (b1 r) hb _ (by omega)]
  rw [e1, e2]
  omega
theorem msk51_16 (k : Nat) : msk 51 k % 2 ^ 4 ≤ 3 := by
  cases k with
  | zero => decide
  | succ k => unfold msk; omega
theorem g2_16 (k m : Nat) : g2 k m % 16 ≤ 6 := by
  unfold g2
  have h : ∀ x, (x &&& msk 51 k) % 16 ≤ 3 := by
    intro x
    have e : (x &&& msk 51 k) % 2 ^ 4 = x % 2 ^ 4 &&& msk 51 k % 2 ^ 4 := Nat.and_mod_two_pow
    have e2 : x % 2 ^ 4 &&& msk 51 k % 2 ^ 4 ≤ msk 51 k % 2 ^ 4 := Nat.and_le_right
    have := msk51_16 k
    have e3 : (2 : Nat) ^ 4 = 16 := rfl
    rw [e3] at *
    omega
  have h1 := h (g1 k m)
  have h2 := h (g1 k m / 4)
  omega
theorem g3_s (k m r : Nat) (hr : r < 256) : g3 (k + 1) (256 * m + r) = 256 * g3 k m + pc8 r := by
  unfold g3
  rw [g2_s k m r hr]
  have hb := (b_lt r hr).2
  have hc := g2_16 k m
  conv => lhs; rhs; unfold msk
  rw [show 256 * g2 k m + b2 r + (256 * g2 k m + b2 r) / 16 = 256 * (g2 k m + g2 k m / 16) + (b2 r + 16 * (g2 k m % 16) + b2 r / 16) by omega, and_256 _ _ _ _ (by omega) (by omega), g_t3 r hr _ (by omega)]
theorem g3_0 (m : Nat) : g3 0 m = 0 := by unfold g3 msk; exact Nat.and_zero _
theorem tb_256 (m r : Nat) (hr : r < 256) (i : Nat) : (256 * m + r).testBit i = if i < 8 then r.testBit i else m.testBit (i - 8) := Nat.testBit_two_pow_mul_add (i := 8) m hr i
theorem bc_256 (m r k : Nat) (hr : r < 256) : bc (fun i => (256 * m + r).testBit i) (8 + 8 * k) = pc8 r + bc (fun i => m.testBit i) (8 * k) := by
  rw [bc_split]
  congr 1
  · exact bc_congr 8 (fun i hi => by rw [tb_256 m r hr, if_pos hi])
  · exact bc_congr _ (fun i hi => by rw [tb_256 m r hr, if_neg (by omega), show 8 + i - 8 = i by omega])
theorem g3_dig (n : Nat) : ∃ p0 p1 p2 p3 p4 p5 p6 p7 : Nat, p0 ≤ 8 ∧ p1 ≤ 8 ∧ p2 ≤ 8 ∧ p3 ≤ 8 ∧ p4 ≤ 8 ∧ p5 ≤ 8 ∧ p6 ≤ 8 ∧ p7 ≤ 8 ∧ g3 8 n = 256 * (256 * (256 * (256 * (256 * (256 * (256 * p7 + p6) + p5) + p4) + p3) + p2) + p1) + p0 ∧ bc (fun i => n.testBit i) 64 = p0 + p1 + p2 + p3 + p4 + p5 + p6 + p7 := by
  have st : ∀ k n, g3 (k + 1) n = 256 * g3 k (n / 256) + pc8 (n % 256) ∧ pc8 (n % 256) ≤ 8 ∧ bc (fun i => n.testBit i) (8 + 8 * k) = pc8 (n % 256) + bc (fun i => (n / 256).testBit i) (8 * k) := by
    intro k n
    have e : n = 256 * (n / 256) + n % 256 := by omega
    refine ⟨?_, pc8_le _ (by omega), ?_⟩
    · conv => lhs; rw [e]
      exact g3_s k _ _ (by omega)
    · conv => lhs; rw [e]
      exact bc_256 _ _ _ (by omega)
  have s7 := st 7 n
  have s6 := st 6 (n / 256)
  have s5 := st 5 (n / 256 / 256)
  have s4 := st 4 (n / 256 / 256 / 256)
  have s3 := st 3 (n / 256 / 256 / 256 / 256)
  have s2 := st 2 (n / 256 / 256 / 256 / 256 / 256)
  have s1 := st 1 (n / 256 / 256 / 256 / 256 / 256 / 256)
  have s0 := st 0 (n / 256 / 256 / 256 / 256 / 256 / 256 / 256)
  have z := g3_0 (n / 256 / 256 / 256 / 256 / 256 / 256 / 256 / 256)
  have y : bc (fun i => (n / 256 / 256 / 256 / 256 / 256 / 256 / 256 / 256).testBit i) (8 * 0) = 0 := rfl
  refine ⟨_, _, _, _, _, _, _, _, s7.2.1, s6.2.1, s5.2.1, s4.2.1, s3.2.1, s2.2.1, s1.2.1, s0.2.1, ?_, ?_⟩
  · rw [s7.1, s6.1, s5.1, s4.1, s3.1, s2.1, s1.1, s0.1, z, Nat.mul_zero, Nat.zero_add]
  · have t7 : bc (fun i => (n).testBit i) 64 = pc8 ((n) % 256) + bc (fun i => (n / 256).testBit i) 56 := s7.2.2
    have t6 : bc (fun i => (n / 256).testBit i) 56 = pc8 ((n / 256) % 256) + bc (fun i => (n / 256 / 256).testBit i) 48 := s6.2.2
    have t5 : bc (fun i => (n / 256 / 256).testBit i) 48 = pc8 ((n / 256 / 256) % 256) + bc (fun i => (n / 256 / 256 / 256).testBit i) 40 := s5.2.2
    have t4 : bc (fun i => (n / 256 / 256 / 256).testBit i) 40 = pc8 ((n / 256 / 256 / 256) % 256) + bc (fun i => (n / 256 / 256 / 256 / 256).testBit i) 32 := s4.2.2
    have t3 : bc (fun i => (n / 256 / 256 / 256 / 256).testBit i) 32 = pc8 ((n / 256 / 256 / 256 / 256) % 256) + bc (fun i => (n / 256 / 256 / 256 / 256 / 256).testBit i) 24 := s3.2.2
    have t2 : bc (fun i => (n / 256 / 256 / 256 / 256 / 256).testBit i) 24 = pc8 ((n / 256 / 256 / 256 / 256 / 256) % 256) + bc (fun i => (n / 256 / 256 / 256 / 256 / 256 / 256).testBit i) 16 := s2.2.2
    have t1 : bc (fun i => (n / 256 / 256 / 256 / 256 / 256 / 256).testBit i) 16 = pc8 ((n / 256 / 256 / 256 / 256 / 256 / 256) % 256) + bc (fun i => (n / 256 / 256 / 256 / 256 / 256 / 256 / 256).testBit i) 8 := s1.2.2
    have t0 : bc (fun i => (n / 256 / 256 / 256 / 256 / 256 / 256 / 256).testBit i) 8 = pc8 ((n / 256 / 256 / 256 / 256 / 256 / 256 / 256) % 256) + bc (fun i => (n / 256 / 256 / 256 / 256 / 256 / 256 / 256 / 256).testBit i) 0 := s0.2.2
    have t : bc (fun i => (n / 256 / 256 / 256 / 256 / 256 / 256 / 256 / 256).testBit i) 0 = 0 := rfl
    omega
def u4 (v : Int) : Nat := (v % 4294967296).toNat
theorem u4_bv (v : Int) : (BitVec.ofInt 32 v).toNat = u4 v := BitVec.toNat_ofInt v
theorem u4_lt (v : Int) : u4 v < 4294967296 := by unfold u4; omega
theorem bv4_of (x : Int32) : BitVec.ofInt 32 x.toInt = x.toBitVec := by
  have h := Int32.toBitVec_ofInt x.toInt
  rw [Int32.ofInt_toInt] at h
  exact h.symm
theorem u4_and (a b : Int) : u4 (jand a b) = u4 a &&& u4 b := by
  unfold jand
  rw [← u4_bv, bv4_of, Int32.toBitVec_and, Int32.toBitVec_ofInt, Int32.toBitVec_ofInt, BitVec.toNat_and, u4_bv, u4_bv]
theorem u4_xor (a b : Int) : u4 (jxor a b) = u4 a ^^^ u4 b := by
  unfold jxor
  rw [← u4_bv, bv4_of, Int32.toBitVec_xor, Int32.toBitVec_ofInt, Int32.toBitVec_ofInt, BitVec.toNat_xor, u4_bv, u4_bv]
theorem u4_id {x : Int} (hx : ok32 x) (h : u4 x < 2147483648) : x = (u4 x : Int) := by unfold ok32 u4 at *; omega
theorem jand_any {a m : Int} (k : Nat) (hk : k ≤ 30) (hm : u4 m = 2 ^ k - 1) : jand a m = ((u4 a % 2 ^ k : Nat) : Int) := by
  have e : u4 (jand a m) = u4 a % 2 ^ k := by rw [u4_and, hm, Nat.and_two_pow_sub_one_eq_mod]
  have l : u4 a % 2 ^ k < 2 ^ 30 + 1 := by
    have h1 := Nat.mod_lt (u4 a) (Nat.two_pow_pos k)
    have h2 : 2 ^ k ≤ 2 ^ 30 := Nat.pow_le_pow_right (by decide) hk
    omega
  have o : ok32 (jand a m) := jn_ok _
  rw [u4_id o (by rw [e]; omega), e]
theorem l2i_uv {v : Int} (h : uv v < 2147483648) : jl2i v = (uv v : Int) := by unfold jl2i w32 uv at *; omega
theorem q16 (Y L : Nat) (h : L < 65536) : (65536 * Y + L) / 65536 = Y := by omega
theorem q32 (Y L : Nat) (h : L < 4294967296) : (4294967296 * Y + L) / 4294967296 = Y := by omega
theorem x5_ok (a0 a1 a2 a3 a4 a5 a6 a7 X : Nat) (h0 : a0 ≤ 16) (h1 : a1 ≤ 16) (h2 : a2 ≤ 16) (h3 : a3 ≤ 16) (h4 : a4 ≤ 16) (h5 : a5 ≤ 16) (h6 : a6 ≤ 16) (h7 : a7 ≤ 16)
    (hX : X = 256 * (256 * (256 * (256 * (256 * (256 * (256 * a7 + a6) + a5) + a4) + a3) + a2) + a1) + a0) : (X + X / 65536) % 18446744073709551616 = 256 * (256 * (256 * (256 * (256 * (256 * (256 * a7 + a6) + (a5 + a7)) + (a4 + a6)) + (a3 + a5)) + (a2 + a4)) + (a1 + a3)) + (a0 + a2) := by
  have e : X / 65536 = 256 * (256 * (256 * (256 * (256 * a7 + a6) + a5) + a4) + a3) + a2 := by
    rw [hX, show 256 * (256 * (256 * (256 * (256 * (256 * (256 * a7 + a6) + a5) + a4) + a3) + a2) + a1) + a0 = 65536 * (256 * (256 * (256 * (256 * (256 * a7 + a6) + a5) + a4) + a3) + a2) + (256 * a1 + a0) by omega]
    exact q16 _ _ (by omega)
  rw [e, Nat.mod_eq_of_lt (by omega), hX]
  omega
theorem x6_ok (a0 a1 a2 a3 a4 a5 a6 a7 X : Nat) (h0 : a0 ≤ 32) (h1 : a1 ≤ 32) (h2 : a2 ≤ 32) (h3 : a3 ≤ 32) (h4 : a4 ≤ 32) (h5 : a5 ≤ 32) (h6 : a6 ≤ 32) (h7 : a7 ≤ 32)
    (hX : X = 256 * (256 * (256 * (256 * (256 * (256 * (256 * a7 + a6) + a5) + a4) + a3) + a2) + a1) + a0) : (X + X / 4294967296) % 18446744073709551616 % 256 = a0 + a4 := by
  have e : X / 4294967296 = 256 * (256 * (256 * a7 + a6) + a5) + a4 := by
    rw [hX, show 256 * (256 * (256 * (256 * (256 * (256 * (256 * a7 + a6) + a5) + a4) + a3) + a2) + a1) + a0 = 4294967296 * (256 * (256 * (256 * a7 + a6) + a5) + a4) + (256 * (256 * (256 * a3 + a2) + a1) + a0) by omega]
    exact q32 _ _ (by omega)
  rw [e, Nat.mod_mod_of_dvd _ (by decide), hX]
  omega
theorem bcn_ok (h : jH) (v : Int) : f_Jl_bitCount h v = some ((bc (bt v) 64 : Nat) : Int) := by
  unfold f_Jl_bitCount
  obtain ⟨p0, p1, p2, p3, p4, p5, p6, p7, q0, q1, q2, q3, q4, q5, q6, q7, e1, e2⟩ := g3_dig (uv v)
  obtain ⟨m1, m2, m3⟩ := msk_v
  have hn := uv_lt v
  have u1 : uv (jlsub v (jland (jlushr v 1) 6148914691236517205)) = g1 8 (uv v) := by
    have e : uv (jland (jlushr v 1) 6148914691236517205) = uv v / 2 &&& msk 85 8 := by
      rw [uv_and, uv_shr v 1 1 (by decide) (by decide), m1]; rfl
    have l : uv v / 2 &&& msk 85 8 ≤ uv v / 2 := Nat.and_le_left
    rw [uv_sub (by rw [e]; omega), e]; rfl
  generalize jlsub v (jland (jlushr v 1) 6148914691236517205) = x1 at u1 ⊢
  have l1 : g1 8 (uv v) < 18446744073709551616 := by unfold g1; omega
  have u2 : uv (jladd (jland x1 3689348814741910323) (jland (jlushr x1 2) 3689348814741910323)) = g2 8 (uv v) := by
    have a1 : uv (jland x1 3689348814741910323) = g1 8 (uv v) &&& msk 51 8 := by rw [uv_and, u1, m2]; rfl
    have a2 : uv (jland (jlushr x1 2) 3689348814741910323) = g1 8 (uv v) / 4 &&& msk 51 8 := by rw [uv_and, uv_shr x1 2 2 (by decide) (by decide), u1, m2]; rfl
    have a3 : g1 8 (uv v) &&& msk 51 8 ≤ msk 51 8 := Nat.and_le_right
    have a4 : g1 8 (uv v) / 4 &&& msk 51 8 ≤ msk 51 8 := Nat.and_le_right
    rw [uv_add, a1, a2]
    unfold g2
    omega
  have l2 : g2 8 (uv v) ≤ 7378697629483820646 := by
    have a3 : g1 8 (uv v) &&& msk 51 8 ≤ msk 51 8 := Nat.and_le_right
    have a4 : g1 8 (uv v) / 4 &&& msk 51 8 ≤ msk 51 8 := Nat.and_le_right
    unfold g2
    omega
  generalize jladd (jland x1 3689348814741910323) (jland (jlushr x1 2) 3689348814741910323) = x2 at u2 ⊢
  have u3 : uv (jland (jladd x2 (jlushr x2 4)) 1085102592571150095) = g3 8 (uv v) := by
    rw [uv_and, uv_add, uv_shr x2 4 4 (by decide) (by decide), u2]
    unfold g3
    rw [m3, show (2 : Nat) ^ 4 = 16 from rfl, Nat.mod_eq_of_lt (by omega)]; rfl
  generalize jland (jladd x2 (jlushr x2 4)) 1085102592571150095 = x3 at u3 ⊢
  rw [e1] at u3
  have w4 : uv (jladd x3 (jlushr x3 8)) = (256 * (256 * (256 * (256 * (256 * (256 * (256 * p7 + (p6 + p7)) + (p5 + p6)) + (p4 + p5)) + (p3 + p4)) + (p2 + p3)) + (p1 + p2)) + (p0 + p1)) := by
    rw [uv_add, uv_shr x3 8 8 (by decide) (by decide), u3, show (2 : Nat) ^ 8 = 256 from rfl]
    omega
  generalize jladd x3 (jlushr x3 8) = x4 at w4 ⊢
  have u5 := x5_ok (p0 + p1) (p1 + p2) (p2 + p3) (p3 + p4) (p4 + p5) (p5 + p6) (p6 + p7) p7 _ (by omega) (by omega) (by omega) (by omega) (by omega) (by omega) (by omega) (by omega) w4
  have u5' : uv (jladd x4 (jlushr x4 16)) = (uv x4 + uv x4 / 65536) % 18446744073709551616 := by
    rw [uv_add, uv_shr x4 16 16 (by decide) (by decide)]
  rw [← u5'] at u5
  generalize jladd x4 (jlushr x4 16) = x5 at u5 ⊢
  have u6 := x6_ok _ _ _ _ _ _ _ _ _ (by omega) (by omega) (by omega) (by omega) (by omega) (by omega) (by omega) (by omega) u5
  have u6' : uv (jladd x5 (jlushr x5 32)) = (uv x5 + uv x5 / 4294967296) % 18446744073709551616 := by
    rw [uv_add, uv_shr x5 32 32 (by decide) (by decide)]
  rw [← u6'] at u6
  generalize jladd x5 (jlushr x5 32) = x6 at u6 ⊢
  have e3 : bc (bt v) 64 = p0 + p1 + p2 + p3 + p4 + p5 + p6 + p7 := by
    rw [← e2]; exact bc_congr 64 (fun i _ => bt_uv v i)
  have e4 : jand (jl2i x6) 127 = ((u4 (jl2i x6) % 128 : Nat) : Int) := jand_any 7 (by decide) (by decide)
  have e5 : u4 (jl2i x6) % 128 = uv x6 % 128 := by unfold u4 jl2i w32 uv; omega
  rw [e3, e4, e5]
  congr 1
  omega
/-- the lowest bit -/
def low (n k : Nat) : Prop := n.testBit k = true ∧ ∀ j, j < k → n.testBit j = false
theorem low_form {n k : Nat} (h : low n k) : n = 2 ^ (k + 1) * (n / 2 ^ (k + 1)) + 2 ^ k := by
  obtain ⟨h1, h2⟩ := h
  have a : n % 2 ^ k = 0 := by
    apply Nat.eq_of_testBit_eq
    intro i
    rw [Nat.testBit_mod_two_pow, Nat.zero_testBit]
    by_cases e : i < k
    · rw [h2 i e]; simp
    · simp [e]
  have b : n / 2 ^ k % 2 = 1 := by
    rw [Nat.testBit_eq_decide_div_mod_eq] at h1
    simpa using h1
  have c : n / 2 ^ (k + 1) = n / 2 ^ k / 2 := by rw [Nat.pow_succ, Nat.div_div_eq_div_mul]
  have d := Nat.div_add_mod n (2 ^ k)
  rw [c, Nat.pow_succ, Nat.mul_assoc]
  have e : 2 * (n / 2 ^ k / 2) = n / 2 ^ k - 1 := by omega
  rw [e, Nat.mul_sub, Nat.mul_one]
  have f : 2 ^ k ≤ 2 ^ k * (n / 2 ^ k) := Nat.le_mul_of_pos_right _ (by omega)
  omega
theorem low_pred {n k : Nat} (h : low n k) (i : Nat) : (n - 1).testBit i = if i < k then true else if i = k then false else n.testBit i := by
  have f := low_form h
  have hp := Nat.two_pow_pos k
  have e : n - 1 = 2 ^ (k + 1) * (n / 2 ^ (k + 1)) + (2 ^ k - 1) := by omega
  rw [e, Nat.testBit_two_pow_mul_add _ (by rw [Nat.pow_succ]; omega), Nat.testBit_two_pow_sub_one]
  by_cases h1 : i < k
  · rw [if_pos (by omega), if_pos h1]; simp [h1]
  · rw [if_neg h1]
    by_cases h2 : i = k
    · rw [if_pos (by omega), if_pos h2]; simp [h2]
    · rw [if_neg (by omega), if_neg h2, Nat.testBit_div_two_pow, show i - (k + 1) + (k + 1) = i by omega]
theorem low_pos {n k : Nat} (h : low n k) : 0 < n := by
  rcases Nat.eq_zero_or_pos n with e | e
  · rw [e] at h; have := h.1; rw [Nat.zero_testBit] at this; cases this
  · exact e
theorem low_ex {f : Nat → Bool} : ∀ N, (∃ i, i < N ∧ f i = true) → ∃ k, k < N ∧ f k = true ∧ ∀ j, j < k → f j = false := by
  intro N
  induction N with
  | zero => rintro ⟨i, hi, _⟩; omega
  | succ N ih =>
    rintro ⟨i, hi, h⟩
    by_cases c : ∃ i, i < N ∧ f i = true
    · obtain ⟨k, k1, k2⟩ := ih c
      exact ⟨k, by omega, k2⟩
    · have : i = N := by
        by_cases e : i = N
        · exact e
        · exact absurd ⟨i, by omega, h⟩ c
      subst this
      refine ⟨i, by omega, h, fun j hj => ?_⟩
      cases e : f j with
      | false => rfl
      | true => exact absurd ⟨j, hj, e⟩ c
def nt4 (y : Int) : Option Int := if 0 < y then if y ≤ 65536 then f_Ji_numberOfTrailingZeros_j34 jh0 y 1 else f_Ji_numberOfTrailingZeros_j34 jh0 (jushr y 16) (jadd 1 16) else some (jand y 32)
theorem nt4_tab : ∀ k : Nat, k < 32 → nt4 (((2 ^ k - 1 : Nat) : Nat) : Int) = some (k : Int) := by decide +kernel
theorem nti_ok (h : jH) {x : Int} {k : Nat} (hk : k < 32) (hl : low (u4 x) k) : f_Ji_numberOfTrailingZeros h x = some (k : Int) := by
  have e : f_Ji_numberOfTrailingZeros h x = nt4 (jand (jxor x (-1)) (jsub x 1)) := rfl
  have hp := low_pos hl
  have hs : u4 (jsub x 1) = u4 x - 1 := by unfold u4 jsub w32 at *; omega
  have hu : u4 (jand (jxor x (-1)) (jsub x 1)) = 2 ^ k - 1 := by
    rw [u4_and, u4_xor, hs]
    apply Nat.eq_of_testBit_eq
    intro i
    rw [Nat.testBit_and, Nat.testBit_xor, low_pred hl, Nat.testBit_two_pow_sub_one, show u4 (-1) = 2 ^ 32 - 1 from by decide, Nat.testBit_two_pow_sub_one]
    by_cases h1 : i < k
    · rw [if_pos h1, hl.2 i h1]; simp [h1]; omega
    · rw [if_neg h1]
      by_cases h2 : i = k
      · rw [if_pos h2]; simp [h2]
      · rw [if_neg h2]
        by_cases h3 : i < 32
        · simp [h1, h3]
        · have : (u4 x).testBit i = false := Nat.testBit_lt_two_pow (Nat.lt_of_lt_of_le (u4_lt x) (show 2 ^ 32 ≤ 2 ^ i from Nat.pow_le_pow_right (by decide) (by omega)))
          simp [h1, this]
  have l : 2 ^ k - 1 < 2147483648 := by
    have : 2 ^ k ≤ 2 ^ 31 := Nat.pow_le_pow_right (by decide) (by omega)
    omega
  have o : ok32 (jand (jxor x (-1)) (jsub x 1)) := jn_ok _
  rw [e, u4_id o (by rw [hu]; exact l), hu]
  exact nt4_tab k hk
theorem ntz_ok (h : jH) (v : Int) {k : Nat} (hk : k < 64) (hl : low (uv v) k) : f_Jl_numberOfTrailingZeros h v = some (k : Int) := by
  unfold f_Jl_numberOfTrailingZeros
  have e1 : u4 (jl2i v) = uv v % 2 ^ 32 := by unfold u4 jl2i w32 uv; omega
  have e2 : u4 (jl2i (jlushr v 32)) = uv v / 2 ^ 32 := by
    have : u4 (jl2i (jlushr v 32)) = uv (jlushr v 32) % 2 ^ 32 := by unfold u4 jl2i w32 uv; omega
    rw [this, uv_shr v 32 32 (by decide) (by decide)]
    have := uv_lt v
    omega
  have z : jl2i v = 0 ↔ uv v % 2 ^ 32 = 0 := by unfold jl2i w32 uv; omega
  by_cases c : k < 32
  · have l1 : low (u4 (jl2i v)) k := by
      rw [e1]
      refine ⟨?_, fun j hj => ?_⟩
      · rw [Nat.testBit_mod_two_pow, hl.1]; simp [c]
      · rw [Nat.testBit_mod_two_pow, hl.2 j hj]; simp
    have := low_pos l1
    rw [if_neg (by rw [z]; omega), nti_ok h c l1]
    rfl
  · have a : uv v % 2 ^ 32 = 0 := by
      apply Nat.eq_of_testBit_eq
      intro i
      rw [Nat.testBit_mod_two_pow, Nat.zero_testBit]
      by_cases e : i < 32
      · rw [hl.2 i (by omega)]; simp
      · simp [e]
    have l1 : low (u4 (jl2i (jlushr v 32))) (k - 32) := by
      rw [e2]
      refine ⟨?_, fun j hj => ?_⟩
      · rw [Nat.testBit_div_two_pow, show k - 32 + 32 = k by omega]; exact hl.1
      · rw [Nat.testBit_div_two_pow]; exact hl.2 _ (by omega)
    rw [if_pos (z.mpr a), nti_ok h (by omega) l1]
    simp only [Option.bind_some]
    rw [jadd_eq (by omega) (by omega)]
    congr 1
    omega
/-- the bits without the lowest one -/
theorem clr_ok {v : Int} {k : Nat} (hl : low (uv v) k) (i : Nat) : bt (jland v (jlsub v 1)) i = (bt v i && !decide (i = k)) := by
  have hp := low_pos hl
  rw [bt_and, bt_uv, bt_uv, uv_sub (by rw [show uv 1 = 1 from by decide]; omega), show uv 1 = 1 from by decide, low_pred hl]
  by_cases h1 : i < k
  · rw [if_pos h1, hl.2 i h1]; simp
  · rw [if_neg h1]
    by_cases h2 : i = k
    · rw [if_pos h2]; simp [h2]
    · rw [if_neg h2]; simp [h2]
theorem jland_ok (a b : Int) : ok64 (jland a b) := jl_ok _
theorem bc_pos {f : Nat → Bool} : ∀ N, 0 < bc f N → ∃ i, i < N ∧ f i = true := by
  intro N
  induction N with
  | zero => intro h; exact absurd h (Nat.lt_irrefl 0)
  | succ N ih =>
    intro h
    rw [bc_succ] at h
    by_cases e : f N = true
    · exact ⟨N, by omega, e⟩
    · rw [if_neg e] at h
      obtain ⟨i, hi, hh⟩ := ih (by omega)
      exact ⟨i, by omega, hh⟩
theorem bc_zero {f : Nat → Bool} : ∀ N, bc f N = 0 → ∀ i, i < N → f i = false := by
  intro N
  induction N with
  | zero => intro _ i hi; omega
  | succ N ih =>
    intro h i hi
    rw [bc_succ] at h
    by_cases e : f N = true
    · rw [if_pos e] at h; omega
    · rw [if_neg e] at h
      by_cases c : i = N
      · rw [c]; simpa using e
      · exact ih (by omega) i (by omega)
theorem bc_drop {f g : Nat → Bool} {k : Nat} (hk : f k = true) (hg : ∀ i, g i = (f i && !decide (i = k))) : ∀ N, (k < N → bc f N = bc g N + 1) ∧ (N ≤ k → bc f N = bc g N) := by
  intro N
  induction N with
  | zero => exact ⟨fun h => (by omega), fun _ => rfl⟩
  | succ N ih =>
    rw [bc_succ, bc_succ]
    by_cases e : N = k
    · subst e
      rw [if_pos hk, hg N, hk, ih.2 (Nat.le_refl _)]
      simp
    · rw [hg N]
      simp only [e, decide_false, Bool.not_false, Bool.and_true]
      refine ⟨fun h => ?_, fun h => ?_⟩
      · rw [ih.1 (by omega)]; omega
      · rw [ih.2 (by omega)]
/-- as long as bits are left there is a lowest one -/
theorem low_of {v : Int} (h : 0 < bc (bt v) 64) : ∃ k, k < 64 ∧ low (uv v) k := by
  obtain ⟨k, k1, k2, k3⟩ := low_ex 64 (bc_pos 64 h)
  exact ⟨k, k1, by rw [← bt_uv]; exact k2, fun j hj => by rw [← bt_uv]; exact k3 j hj⟩
theorem bc_clr {v : Int} {k : Nat} (hk : k < 64) (hl : low (uv v) k) : bc (bt v) 64 = bc (bt (jland v (jlsub v 1))) 64 + 1 :=
  (bc_drop (by rw [bt_uv]; exact hl.1) (clr_ok hl) 64).1 hk
