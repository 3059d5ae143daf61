/-! counting bits -/
theorem and_cat (s : Nat) {b c : Nat} (a m : Nat) (hb : b < 2 ^ s) (hc : c < 2 ^ s) : (2 ^ s * a + b) &&& (2 ^ s * m + c) = 2 ^ s * (a &&& m) + (b &&& c) := by
  apply Nat.eq_of_testBit_eq
  intro i
  rw [Nat.testBit_and, Nat.testBit_two_pow_mul_add _ hb, Nat.testBit_two_pow_mul_add _ hc, Nat.testBit_two_pow_mul_add _ (Nat.and_lt_two_pow b hc)]
  by_cases q : i < s
  · rw [if_pos q, if_pos q, if_pos q, Nat.testBit_and]
  · rw [if_neg q, if_neg q, if_neg q, Nat.testBit_and]
def p4 (b : Nat) : Nat := b % 2 + b / 2 % 2 + b / 4 % 2 + b / 8 % 2
theorem p4_b (b : Nat) : p4 b ≤ 4 := by unfold p4; omega
def mk (c : Nat) : Nat → Nat
  | 0 => 0
  | k + 1 => 16 * mk c k + c
def f1 (b : Nat) : Nat := b - (b / 2 &&& 5)
def f2 (b : Nat) : Nat := (b &&& 3) + (b / 4 &&& 3)
def t1 : Nat → Nat → Nat
  | 0, _ => 0
  | k + 1, n => 16 * t1 k (n / 16) + f1 (n % 16)
def q4 : Nat → Nat → Nat
  | 0, _ => 0
  | k + 1, n => 16 * q4 k (n / 16) + p4 (n % 16)
theorem f1_k : ∀ r, r < 16 → ∀ e, e < 2 → ((8 * e + r / 2) &&& 5) + f1 r = r := by decide +kernel
theorem f1_b : ∀ r, r < 16 → f1 r < 16 := by decide +kernel
theorem f2_k : ∀ r, r < 16 → ∀ e, e < 4 → (f1 r &&& 3) + ((4 * e + f1 r / 4) &&& 3) = p4 r := by decide +kernel
theorem st1 : ∀ k n, n < 16 ^ k → (n / 2 &&& mk 5 k) + t1 k n = n
  | 0, n, h => by
    have : n = 0 := by omega
    subst this
    rfl
  | k + 1, n, h => by
    have hp : 16 ^ (k + 1) = 16 * 16 ^ k := by rw [Nat.pow_succ, Nat.mul_comm]
    have ih := st1 k (n / 16) (by omega)
    have hr : n % 16 < 16 := Nat.mod_lt _ (by decide)
    have h1 := f1_k (n % 16) hr (n / 16 % 2) (by omega)
    have e : n / 2 = 2 ^ 4 * (n / 16 / 2) + (8 * (n / 16 % 2) + n % 16 / 2) := by omega
    have h2 := and_cat 4 (b := 8 * (n / 16 % 2) + n % 16 / 2) (c := 5) (n / 16 / 2) (mk 5 k) (by omega) (by omega)
    rw [← e] at h2
    show (n / 2 &&& (2 ^ 4 * mk 5 k + 5)) + (16 * t1 k (n / 16) + f1 (n % 16)) = n
    rw [h2]
    generalize (n / 16 / 2 &&& mk 5 k) = A at *
    generalize (8 * (n / 16 % 2) + n % 16 / 2 &&& 5) = B at *
    omega
theorem st2 : ∀ k n, (t1 k n &&& mk 3 k) + (t1 k n / 4 &&& mk 3 k) = q4 k n
  | 0, n => by show (0 &&& 0) + (0 / 4 &&& 0) = 0; decide
  | k + 1, n => by
    have ih := st2 k (n / 16)
    have hr : n % 16 < 16 := Nat.mod_lt _ (by decide)
    have hf := f1_b (n % 16) hr
    have h1 := f2_k (n % 16) hr (t1 k (n / 16) % 4) (by omega)
    have e : (16 * t1 k (n / 16) + f1 (n % 16)) / 4 = 2 ^ 4 * (t1 k (n / 16) / 4) + (4 * (t1 k (n / 16) % 4) + f1 (n % 16) / 4) := by omega
    have h2 := and_cat 4 (b := 4 * (t1 k (n / 16) % 4) + f1 (n % 16) / 4) (c := 3) (t1 k (n / 16) / 4) (mk 3 k) (by omega) (by omega)
    have h3 := and_cat 4 (b := f1 (n % 16)) (c := 3) (t1 k (n / 16)) (mk 3 k) (by omega) (by omega)
    show ((2 ^ 4 * t1 k (n / 16) + f1 (n % 16)) &&& (2 ^ 4 * mk 3 k + 3)) + ((16 * t1 k (n / 16) + f1 (n % 16)) / 4 &&& (2 ^ 4 * mk 3 k + 3)) = 16 * q4 k (n / 16) + p4 (n % 16)
    rw [h3, e, h2]
    omega
theorem q4_m : ∀ k n, q4 k n % 16 ≤ 4
  | 0, n => by show 0 % 16 ≤ 4; omega
  | k + 1, n => by
    have := p4_b (n % 16)
    show (16 * q4 k (n / 16) + p4 (n % 16)) % 16 ≤ 4
    omega
def mf : Nat → Nat
  | 0 => 0
  | k + 1 => 256 * mf k + 15
def p8 (n : Nat) : Nat := p4 (n % 16) + p4 (n / 16 % 16)
def q8 : Nat → Nat → Nat
  | 0, _ => 0
  | k + 1, n => 256 * q8 k (n / 256) + p8 n
theorem a15 : ∀ a, a ≤ 8 → ∀ b, b ≤ 8 → (16 * a + b) &&& 15 = b := by decide +kernel
theorem st3 : ∀ k n, (q4 (2 * k) n + q4 (2 * k) n / 16) &&& mf k = q8 k n
  | 0, n => by show (0 + 0 / 16) &&& 0 = 0; decide
  | k + 1, n => by
    have ih := st3 k (n / 256)
    have b1 := p4_b (n % 16)
    have b2 := p4_b (n / 16 % 16)
    have b3 := q4_m (2 * k) (n / 256)
    have e : q4 (2 * (k + 1)) n = 16 * (16 * q4 (2 * k) (n / 256) + p4 (n / 16 % 16)) + p4 (n % 16) := by
      show 16 * (16 * q4 (2 * k) (n / 16 / 16) + p4 (n / 16 % 16)) + p4 (n % 16) = _
      rw [Nat.div_div_eq_div_mul]
    have h1 := a15 (p4 (n / 16 % 16) + q4 (2 * k) (n / 256) % 16) (by omega) (p4 (n % 16) + p4 (n / 16 % 16)) (by omega)
    have h2 := and_cat 8 (b := 16 * (p4 (n / 16 % 16) + q4 (2 * k) (n / 256) % 16) + (p4 (n % 16) + p4 (n / 16 % 16))) (c := 15) (q4 (2 * k) (n / 256) + q4 (2 * k) (n / 256) / 16) (mf k) (by omega) (by omega)
    show (q4 (2 * (k + 1)) n + q4 (2 * (k + 1)) n / 16) &&& (2 ^ 8 * mf k + 15) = 2 ^ 8 * q8 k (n / 256) + (p4 (n % 16) + p4 (n / 16 % 16))
    rw [e]
    rw [h1, ih] at h2
    rw [← h2]
    congr 1
    omega
/-- the count -/
def pn (n N : Nat) : Nat := fb_sm (fun i => (n.testBit i).toNat) N
theorem pn_8 (n : Nat) : pn n 8 = p8 n := by
  show 0 + (n.testBit 0).toNat + (n.testBit 1).toNat + (n.testBit 2).toNat + (n.testBit 3).toNat + (n.testBit 4).toNat + (n.testBit 5).toNat + (n.testBit 6).toNat + (n.testBit 7).toNat = p4 (n % 16) + p4 (n / 16 % 16)
  simp only [Nat.toNat_testBit]
  unfold p4
  omega
theorem pn_s (n N : Nat) : pn n (8 + N) = p8 n + pn (n / 256) N := by
  show fb_sm _ (8 + N) = _
  rw [fb_sm_split]
  have h : fb_sm (fun i => (n.testBit i).toNat) 8 = p8 n := pn_8 n
  rw [h]
  congr 1
  apply fb_sm_cong
  intro i _
  show (n.testBit (8 + i)).toNat = ((n / 2 ^ 8).testBit i).toNat
  rw [Nat.testBit_div_two_pow, Nat.add_comm]
theorem p8_b (n : Nat) : p8 n ≤ 8 := by
  have := p4_b (n % 16)
  have := p4_b (n / 16 % 16)
  unfold p8
  omega
theorem q4_b : ∀ k n, q4 k n < 16 ^ k
  | 0, n => by show 0 < 16 ^ 0; decide
  | k + 1, n => by
    have ih := q4_b k (n / 16)
    have hp : 16 ^ (k + 1) = 16 * 16 ^ k := by rw [Nat.pow_succ, Nat.mul_comm]
    have := p4_b (n % 16)
    show 16 * q4 k (n / 16) + p4 (n % 16) < _
    omega
theorem sw_fin {n3 r1 r2 r3 r4 r5 r6 c0 c1 c2 c3 c4 c5 c6 c7 : Nat} (h0 : n3 = 256 * r1 + c0) (h1 : r1 = 256 * r2 + c1) (h2 : r2 = 256 * r3 + c2) (h3 : r3 = 256 * r4 + c3) (h4 : r4 = 256 * r5 + c4) (h5 : r5 = 256 * r6 + c5) (h6 : r6 = 256 * c7 + c6)
    (b0 : c0 ≤ 8) (b1 : c1 ≤ 8) (b2 : c2 ≤ 8) (b3 : c3 ≤ 8) (b4 : c4 ≤ 8) (b5 : c5 ≤ 8) (b6 : c6 ≤ 8) (b7 : c7 ≤ 8) : (n3 + n3 / 256 + (n3 + n3 / 256) / 65536 + (n3 + n3 / 256 + (n3 + n3 / 256) / 65536) / 4294967296) % 128 = c0 + (c1 + (c2 + (c3 + (c4 + (c5 + (c6 + (c7 + 0))))))) := by
  have e1 : n3 / 256 = r1 := by rw [h0, Nat.mul_add_div (by decide), Nat.div_eq_of_lt (by omega), Nat.add_zero]
  rw [e1]
  have e2 : (n3 + r1) / 65536 = r2 + r3 := by
    rw [show n3 + r1 = 65536 * (r2 + r3) + (256 * (c1 + c2) + (c0 + c1)) by omega, Nat.mul_add_div (by decide), Nat.div_eq_of_lt (by omega), Nat.add_zero]
  rw [e2]
  have e3 : (n3 + r1 + (r2 + r3)) / 4294967296 = r4 + r5 + (r6 + c7) := by
    rw [show n3 + r1 + (r2 + r3) = 4294967296 * (r4 + r5 + (r6 + c7)) + (16777216 * (c3 + c4 + (c5 + c6)) + 65536 * (c2 + c3 + (c4 + c5)) + 256 * (c1 + c2 + (c3 + c4)) + (c0 + c1 + (c2 + c3))) by omega, Nat.mul_add_div (by decide), Nat.div_eq_of_lt (by omega), Nat.add_zero]
  rw [e3]
  rw [show n3 + r1 + (r2 + r3) + (r4 + r5 + (r6 + c7)) = 256 * (r1 + r2 + r3 + r4 + r5 + r6 + c7) + (c0 + (c1 + (c2 + (c3 + (c4 + (c5 + (c6 + (c7 + 0)))))))) by omega]
  clear e1 e2 e3 h0 h1 h2 h3 h4 h5 h6
  generalize r1 + r2 + r3 + r4 + r5 + r6 + c7 = A
  omega
theorem sJ13 {n : Nat} (hn : n < 2 ^ 64) {post : Int32 → Prop} (h : post (nI (pn n 64))) : wpJ13_bitCount_95d88 post (lN n) := by
  intro x1 e1 x2 e2 x3 e3 x4 e4
  have s1 := st1 16 n (by have : (16 : Nat) ^ 16 = 2 ^ 64 := by decide +kernel
                          omega)
  have s2 := st2 16 n
  have s3 := st3 8 n
  have q4b := q4_b 16 n
  have hq : (16 : Nat) ^ 16 = 2 ^ 64 := by decide +kernel
  rw [show 2 * 8 = 16 from rfl] at s3
  have f1 : x1 = lN (t1 16 n) := by
    have z : ((lN n).toUInt64 >>> ((1 : Int32).toInt64.toUInt64 &&& Int64.toUInt64 63)).toInt64 = lN (n / 2) := wb_shr (k := 1) hn (by decide)
    rw [e1, z, show (6148914691236517205 : Int64) = lN (mk 5 16) from rfl, fb_andL, lN_sub (by omega)]
    congr 1
    omega
  have f2 : x2 = lN (q4 16 n) := by
    have z : ((lN (t1 16 n)).toUInt64 >>> ((2 : Int32).toInt64.toUInt64 &&& Int64.toUInt64 63)).toInt64 = lN (t1 16 n / 4) := wb_shr (k := 2) (by omega) (by decide)
    rw [e2, f1, z, show (3689348814741910323 : Int64) = lN (mk 3 16) from rfl, fb_andL, fb_andL, lN_add, s2]
  have f3 : x3 = lN (q8 8 n) := by
    have z : ((lN (q4 16 n)).toUInt64 >>> ((4 : Int32).toInt64.toUInt64 &&& Int64.toUInt64 63)).toInt64 = lN (q4 16 n / 16) := wb_shr (k := 4) (by omega) (by decide)
    rw [e3, f2, z, show (1085102592571150095 : Int64) = lN (mf 8) from rfl, lN_add, fb_andL, s3]
  have b0 := p8_b n
  have b1 := p8_b (n / 256)
  have b2 := p8_b (n / 256 / 256)
  have b3 := p8_b (n / 256 / 256 / 256)
  have b4 := p8_b (n / 256 / 256 / 256 / 256)
  have b5 := p8_b (n / 256 / 256 / 256 / 256 / 256)
  have b6 := p8_b (n / 256 / 256 / 256 / 256 / 256 / 256)
  have b7 := p8_b (n / 256 / 256 / 256 / 256 / 256 / 256 / 256)
  have fin := sw_fin (n3 := q8 8 n) (r1 := q8 7 (n / 256)) (r2 := q8 6 (n / 256 / 256)) (r3 := q8 5 (n / 256 / 256 / 256)) (r4 := q8 4 (n / 256 / 256 / 256 / 256)) (r5 := q8 3 (n / 256 / 256 / 256 / 256 / 256)) (r6 := q8 2 (n / 256 / 256 / 256 / 256 / 256 / 256)) rfl rfl rfl rfl rfl rfl (show 256 * (256 * 0 + p8 (n / 256 / 256 / 256 / 256 / 256 / 256 / 256)) + _ = _ by rw [Nat.mul_zero, Nat.zero_add]) b0 b1 b2 b3 b4 b5 b6 b7
  have pe : pn n 64 = _ := ((pn_s _ 56).trans (congrArg _ ((pn_s _ 48).trans (congrArg _ ((pn_s _ 40).trans (congrArg _ ((pn_s _ 32).trans (congrArg _ ((pn_s _ 24).trans (congrArg _ ((pn_s _ 16).trans (congrArg _ ((pn_s _ 8).trans (congrArg _ (pn_s _ 0)))))))))))))))
  rw [show pn (n / 256 / 256 / 256 / 256 / 256 / 256 / 256 / 256) 0 = 0 from rfl] at pe
  rw [← pe] at fin
  have hb : q8 8 n < 2 ^ 60 := by
    have : q8 8 n = 256 * (256 * (256 * (256 * (256 * (256 * (256 * (256 * 0 + p8 (n / 256 / 256 / 256 / 256 / 256 / 256 / 256)) + p8 (n / 256 / 256 / 256 / 256 / 256 / 256)) + p8 (n / 256 / 256 / 256 / 256 / 256)) + p8 (n / 256 / 256 / 256 / 256)) + p8 (n / 256 / 256 / 256)) + p8 (n / 256 / 256)) + p8 (n / 256)) + p8 n := rfl
    omega
  have f4 : x4 = lN (q8 8 n + q8 8 n / 256 + (q8 8 n + q8 8 n / 256) / 65536) := by
    have z : ((lN (q8 8 n)).toUInt64 >>> ((8 : Int32).toInt64.toUInt64 &&& Int64.toUInt64 63)).toInt64 = lN (q8 8 n / 256) := wb_shr (k := 8) (by omega) (by decide)
    have z2 : ((lN (q8 8 n + q8 8 n / 256)).toUInt64 >>> ((16 : Int32).toInt64.toUInt64 &&& Int64.toUInt64 63)).toInt64 = lN ((q8 8 n + q8 8 n / 256) / 65536) := wb_shr (k := 16) (by omega) (by decide)
    rw [e4, f3, z, lN_add, z2, lN_add]
  have z : ((lN (q8 8 n + q8 8 n / 256 + (q8 8 n + q8 8 n / 256) / 65536)).toUInt64 >>> ((32 : Int32).toInt64.toUInt64 &&& Int64.toUInt64 63)).toInt64 = lN ((q8 8 n + q8 8 n / 256 + (q8 8 n + q8 8 n / 256) / 65536) / 4294967296) := wb_shr (k := 32) (by omega) (by decide)
  rw [f4, z, lN_add, lN_i, show (127 : Int32) = nI (2 ^ 7 - 1) from rfl, fa_mask]
  rw [show (2 : Nat) ^ 7 = 128 from rfl, fin]
  exact h
/-! the same of an int -/
theorem fa_shr {n : Nat} (hn : n < 2 ^ 32) (k : Nat) (hk : k < 32) : ((nI n).toUInt32 >>> ((nI k).toUInt32 &&& Int32.toUInt32 31)).toInt32 = nI (n / 2 ^ k) := by
  apply b_ext
  intro i hi
  rw [b_ushr k hk]
  show (BitVec.ofNat 32 n).getLsbD (k + i) = (BitVec.ofNat 32 (n / 2 ^ k)).getLsbD i
  rw [BitVec.getLsbD_ofNat, BitVec.getLsbD_ofNat, Nat.testBit_div_two_pow, decide_eq_true hi, Bool.true_and, Nat.add_comm i k]
  by_cases q : k + i < 32
  · rw [decide_eq_true q, Bool.true_and]
  · rw [decide_eq_false q, Bool.false_and]
    exact (Nat.testBit_lt_two_pow (Nat.lt_of_lt_of_le hn (Nat.pow_le_pow_right (by decide) (by omega)))).symm
theorem sw_fin4 {n3 r1 r2 c0 c1 c2 c3 : Nat} (h0 : n3 = 256 * r1 + c0) (h1 : r1 = 256 * r2 + c1) (h2 : r2 = 256 * c3 + c2)
    (b0 : c0 ≤ 8) (b1 : c1 ≤ 8) (b2 : c2 ≤ 8) (b3 : c3 ≤ 8) : (n3 + n3 / 256 + (n3 + n3 / 256) / 65536) % 64 = c0 + (c1 + (c2 + (c3 + 0))) := by
  have e1 : n3 / 256 = r1 := by omega
  rw [e1]
  have e2 : (n3 + r1) / 65536 = r2 + c3 := by omega
  rw [e2]
  omega
theorem sJ6 {n : Nat} (hn : n < 2 ^ 32) {post : Int32 → Prop} (h : post (nI (pn n 32))) : wpJ6_bitCount_0f7a4 post (nI n) := by
  intro x1 e1 x2 e2 x3 e3 x4 e4
  have hq : (16 : Nat) ^ 8 = 2 ^ 32 := by decide +kernel
  have s1 := st1 8 n (by omega)
  have s2 := st2 8 n
  have s3 := st3 4 n
  have q4b := q4_b 8 n
  rw [show 2 * 4 = 8 from rfl] at s3
  have f1 : x1 = nI (t1 8 n) := by
    have z : ((nI n).toUInt32 >>> ((1 : Int32).toUInt32 &&& Int32.toUInt32 31)).toInt32 = nI (n / 2) := fa_shr hn 1 (by decide)
    rw [e1, z, show (1431655765 : Int32) = nI (mk 5 8) from rfl, fa_and, pk_sub (by omega)]
    congr 1
    omega
  have f2 : x2 = nI (q4 8 n) := by
    have z : ((nI (t1 8 n)).toUInt32 >>> ((2 : Int32).toUInt32 &&& Int32.toUInt32 31)).toInt32 = nI (t1 8 n / 4) := fa_shr (by omega) 2 (by decide)
    rw [e2, f1, z, show (858993459 : Int32) = nI (mk 3 8) from rfl, fa_and, fa_and, nI_add, s2]
  have f3 : x3 = nI (q8 4 n) := by
    have z : ((nI (q4 8 n)).toUInt32 >>> ((4 : Int32).toUInt32 &&& Int32.toUInt32 31)).toInt32 = nI (q4 8 n / 16) := fa_shr (by omega) 4 (by decide)
    rw [e3, f2, z, show (252645135 : Int32) = nI (mf 4) from rfl, nI_add, fa_and, s3]
  have b0 := p8_b n
  have b1 := p8_b (n / 256)
  have b2 := p8_b (n / 256 / 256)
  have b3 := p8_b (n / 256 / 256 / 256)
  have fin := sw_fin4 (n3 := q8 4 n) (r1 := q8 3 (n / 256)) (r2 := q8 2 (n / 256 / 256)) rfl rfl (show 256 * (256 * 0 + p8 (n / 256 / 256 / 256)) + _ = _ by rw [Nat.mul_zero, Nat.zero_add]) b0 b1 b2 b3
  have pe : pn n 32 = _ := ((pn_s _ 24).trans (congrArg _ ((pn_s _ 16).trans (congrArg _ ((pn_s _ 8).trans (congrArg _ (pn_s _ 0)))))))
  rw [show pn (n / 256 / 256 / 256 / 256) 0 = 0 from rfl] at pe
  rw [← pe] at fin
  have hb : q8 4 n < 2 ^ 28 := by
    have : q8 4 n = 256 * (256 * (256 * (256 * 0 + p8 (n / 256 / 256 / 256)) + p8 (n / 256 / 256)) + p8 (n / 256)) + p8 n := rfl
    omega
  have f4 : x4 = nI (q8 4 n + q8 4 n / 256 + (q8 4 n + q8 4 n / 256) / 65536) := by
    have z : ((nI (q8 4 n)).toUInt32 >>> ((8 : Int32).toUInt32 &&& Int32.toUInt32 31)).toInt32 = nI (q8 4 n / 256) := fa_shr (by omega) 8 (by decide)
    have z2 : ((nI (q8 4 n + q8 4 n / 256)).toUInt32 >>> ((16 : Int32).toUInt32 &&& Int32.toUInt32 31)).toInt32 = nI ((q8 4 n + q8 4 n / 256) / 65536) := fa_shr (by omega) 16 (by decide)
    rw [e4, f3, z, nI_add, z2, nI_add]
  rw [f4, show (63 : Int32) = nI (2 ^ 6 - 1) from rfl, fa_mask, show (2 : Nat) ^ 6 = 64 from rfl, fin]
  exact h
