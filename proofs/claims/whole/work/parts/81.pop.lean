/-! 81: Long.bitCount counts -/
theorem wb_tb (n : Nat) : (lN n).toBitVec = BitVec.ofNat 64 n := rfl
theorem wb_of (x : Int64) : ∃ n, n < 2 ^ 64 ∧ x = lN n := ⟨x.toBitVec.toNat, x.toBitVec.isLt, by
  apply Int64.toBitVec_inj.1
  rw [wb_tb, BitVec.ofNat_toNat, BitVec.setWidth_eq]⟩
theorem wb_and (a b : Nat) : lN a &&& lN b = lN (a &&& b) := by
  apply Int64.toBitVec_inj.1
  show BitVec.ofNat 64 a &&& BitVec.ofNat 64 b = BitVec.ofNat 64 (a &&& b)
  apply BitVec.eq_of_getLsbD_eq
  intro i hi
  simp [hi]
theorem wb_shr {n k : Nat} (hn : n < 2 ^ 64) (hk : k < 64) : ((lN n).toUInt64 >>> ((nI k).toInt64.toUInt64 &&& Int64.toUInt64 63)).toInt64 = lN (n / 2 ^ k) := by
  apply Int64.toBitVec_inj.1
  show (BitVec.ofNat 64 n) >>> (((nI k).toInt64.toUInt64 &&& Int64.toUInt64 63).toBitVec % 64) = BitVec.ofNat 64 (n / 2 ^ k)
  rw [BitVec.ushiftRight_eq', h_s63 k hk]
  apply BitVec.eq_of_toNat_eq
  rw [BitVec.toNat_ushiftRight, BitVec.toNat_ofNat, BitVec.toNat_ofNat, Nat.mod_eq_of_lt hn, Nat.shiftRight_eq_div_pow, Nat.mod_eq_of_lt (Nat.lt_of_le_of_lt (Nat.div_le_self _ _) hn)]
theorem h_tb {n : Nat} (i : Nat) (hi : i < 64) : ht (lN n) i = n.testBit i := by
  show (BitVec.ofNat 64 n).getLsbD i = _
  rw [BitVec.getLsbD_ofNat, decide_eq_true hi, Bool.true_and]
theorem and_split {a b c d : Nat} (hb : b < 256) (hd : d < 256) : (256 * a + b) &&& (256 * c + d) = 256 * (a &&& c) + (b &&& d) := by
  apply Nat.eq_of_testBit_eq
  intro i
  have hbd : b &&& d < 2 ^ 8 := Nat.lt_of_le_of_lt Nat.and_le_left hb
  rw [Nat.testBit_and, show (256 : Nat) = 2 ^ 8 from rfl, Nat.testBit_two_pow_mul_add _ hb, Nat.testBit_two_pow_mul_add _ hd, Nat.testBit_two_pow_mul_add _ hbd]
  rcases Nat.lt_or_ge i 8 with h | h
  · rw [if_pos h, if_pos h, if_pos h, Nat.testBit_and]
  · rw [if_neg (by omega), if_neg (by omega), if_neg (by omega), Nat.testBit_and]
def rep (d : Nat) : Nat → Nat
  | 0 => 0
  | k + 1 => 256 * rep d k + d
def f1 (k n : Nat) : Nat := n - ((n / 2) &&& rep 85 k)
def f2 (k n : Nat) : Nat := (n &&& rep 51 k) + ((n / 4) &&& rep 51 k)
def f3 (k n : Nat) : Nat := (n + n / 16) &&& rep 15 k
theorem f1_le (k n : Nat) : (n / 2) &&& rep 85 k ≤ n := Nat.le_trans Nat.and_le_left (Nat.div_le_self _ _)
theorem f1_b : ∀ e, e < 2 → ∀ r, r < 128 → (128 * e + r) &&& 85 = r &&& 85 := by decide +kernel
theorem f1_s (k q r : Nat) (hr : r < 256) : f1 (k + 1) (256 * q + r) = 256 * f1 k q + (r - ((r / 2) &&& 85)) := by
  unfold f1
  rw [rep]
  have e : (256 * q + r) / 2 = 256 * (q / 2) + (128 * (q % 2) + r / 2) := by omega
  rw [e, and_split (by omega) (by omega), f1_b _ (by omega) _ (by omega)]
  have h1 := f1_le k q
  have h2 : (r / 2) &&& 85 ≤ r := Nat.le_trans Nat.and_le_left (Nat.div_le_self _ _)
  omega
theorem f2_b : ∀ e, e < 4 → ∀ r, r < 64 → (64 * e + r) &&& 51 = r &&& 51 := by decide +kernel
theorem f2_s (k q r : Nat) (hr : r < 256) : f2 (k + 1) (256 * q + r) = 256 * f2 k q + ((r &&& 51) + ((r / 4) &&& 51)) := by
  unfold f2
  rw [rep]
  have e : (256 * q + r) / 4 = 256 * (q / 4) + (64 * (q % 4) + r / 4) := by omega
  rw [e, and_split hr (by omega), and_split (by omega) (by omega), f2_b _ (by omega) _ (by omega)]
  omega
theorem f3_b : ∀ e, e < 5 → ∀ r, r < 128 → (16 * e + r) &&& 15 = r &&& 15 := by decide +kernel
theorem f3_s (k q r : Nat) (hr : r < 69) (hq : q % 16 < 5) : f3 (k + 1) (256 * q + r) = 256 * f3 k q + ((r + r / 16) &&& 15) := by
  unfold f3
  rw [rep]
  have e : 256 * q + r + (256 * q + r) / 16 = 256 * (q + q / 16) + (16 * (q % 16) + (r + r / 16)) := by omega
  rw [e, and_split (by omega) (by omega), f3_b _ hq _ (by omega)]
def g1 (r : Nat) : Nat := r - ((r / 2) &&& 85)
def g2 (r : Nat) : Nat := (r &&& 51) + ((r / 4) &&& 51)
def g3 (r : Nat) : Nat := (r + r / 16) &&& 15
theorem g_b : ∀ r, r < 256 → g1 r < 256 ∧ g2 (g1 r) < 69 ∧ g2 (g1 r) % 16 < 5 ∧ g3 (g2 (g1 r)) = cnt (fun i => r.testBit i) 8 := by decide +kernel
def xB : Nat → Nat → Nat
  | 0, _ => 0
  | k + 1, n => 256 * xB k (n / 256) + cnt (fun i => n.testBit i) 8
theorem f12_m (k n : Nat) : f2 k (f1 k n) % 16 < 5 ∨ k = 0 := by
  cases k with
  | zero => exact Or.inr rfl
  | succ k =>
    refine Or.inl ?_
    obtain ⟨a, b, c, d⟩ := g_b (n % 256) (by omega)
    have e : n = 256 * (n / 256) + n % 256 := by omega
    have e1 : f1 (k + 1) n = 256 * f1 k (n / 256) + g1 (n % 256) := by
      conv => lhs; rw [e]
      exact f1_s k _ _ (by omega)
    rw [e1, f2_s k _ _ a]
    show (256 * _ + g2 (g1 (n % 256))) % 16 < 5
    omega
theorem tb_mod (n : Nat) : cnt (fun i => (n % 256).testBit i) 8 = cnt (fun i => n.testBit i) 8 := cnt_congr 8 (fun i hi => by
  rw [show (256 : Nat) = 2 ^ 8 from rfl, Nat.testBit_mod_two_pow, decide_eq_true hi, Bool.true_and])
theorem f_x : ∀ k n, n < 256 ^ k → f3 k (f2 k (f1 k n)) = xB k n := by
  intro k
  induction k with
  | zero => intro n h; unfold f3; rw [rep, Nat.and_zero, xB]
  | succ k ih =>
    intro n h
    obtain ⟨a, b, c, d⟩ := g_b (n % 256) (by omega)
    have e : n = 256 * (n / 256) + n % 256 := by omega
    have e1 : f1 (k + 1) n = 256 * f1 k (n / 256) + g1 (n % 256) := by
      conv => lhs; rw [e]
      exact f1_s k _ _ (by omega)
    have e2 : f2 (k + 1) (f1 (k + 1) n) = 256 * f2 k (f1 k (n / 256)) + g2 (g1 (n % 256)) := by rw [e1]; exact f2_s k _ _ a
    have hn : n / 256 < 256 ^ k := by rw [Nat.pow_succ] at h; omega
    have e3 : f3 (k + 1) (f2 (k + 1) (f1 (k + 1) n)) = 256 * f3 k (f2 k (f1 k (n / 256))) + g3 (g2 (g1 (n % 256))) := by
      rw [e2]
      rcases f12_m k (n / 256) with q | q
      · exact f3_s k _ _ b q
      · subst q
        have : n / 256 = 0 := by simpa using hn
        rw [this]
        exact f3_s 0 _ _ b (by decide)
    rw [e3, ih _ hn, d, xB, tb_mod]
theorem cnt_add (p : Nat → Bool) (a : Nat) : ∀ b, cnt p (a + b) = cnt p a + cnt (fun i => p (a + i)) b := by
  intro b
  induction b with
  | zero => rfl
  | succ b ih => rw [← Nat.add_assoc, cnt, cnt, ih]; omega
def sB : Nat → Nat → Nat
  | 0, _ => 0
  | k + 1, n => sB k (n / 256) + cnt (fun i => n.testBit i) 8
theorem s_cnt : ∀ k n, cnt (fun i => n.testBit i) (8 * k) = sB k n := by
  intro k
  induction k with
  | zero => intro n; rfl
  | succ k ih =>
    intro n
    rw [show 8 * (k + 1) = 8 + 8 * k by omega, cnt_add, sB, ← ih (n / 256), Nat.add_comm]
    congr 1
    exact cnt_congr _ (fun i _ => by rw [show (256 : Nat) = 2 ^ 8 from rfl, Nat.testBit_div_two_pow, Nat.add_comm])
theorem x_sum {p0 p1 p2 p3 p4 p5 p6 p7 A0 A1 A2 A3 A4 A5 A6 A7 : Nat} (h0 : p0 ≤ 8) (h1 : p1 ≤ 8) (h2 : p2 ≤ 8) (h3 : p3 ≤ 8) (h4 : p4 ≤ 8) (h5 : p5 ≤ 8) (h6 : p6 ≤ 8) (h7 : p7 ≤ 8) (e0 : A0 = 256 * A1 + p0) (e1 : A1 = 256 * A2 + p1) (e2 : A2 = 256 * A3 + p2) (e3 : A3 = 256 * A4 + p3) (e4 : A4 = 256 * A5 + p4) (e5 : A5 = 256 * A6 + p5) (e6 : A6 = 256 * A7 + p6) (e7 : A7 = p7) : A0 < 2 ^ 60 ∧ A0 / 256 = A1 ∧ A0 + A1 < 2 ^ 61 ∧ (A0 + A1) / 65536 = A2 + A3 ∧ A0 + A1 + (A2 + A3) < 2 ^ 61 ∧ (A0 + A1 + (A2 + A3)) / 4294967296 = A4 + A5 + A6 + A7 ∧ (A0 + A1 + (A2 + A3) + (A4 + A5 + A6 + A7)) < 2 ^ 62 ∧ (A0 + A1 + (A2 + A3) + (A4 + A5 + A6 + A7)) % 128 = p0 + p1 + p2 + p3 + p4 + p5 + p6 + p7 := by
  have b6 : A6 < 2064 := by omega
  have b5 : A5 < 529000 := by omega
  have b4 : A4 < 136000000 := by omega
  have b3 : A3 < 2 ^ 36 := by omega
  have b2 : A2 < 2 ^ 44 := by omega
  have b1 : A1 < 2 ^ 52 := by omega
  have b0 : A0 < 2 ^ 60 := by omega
  refine ⟨b0, by omega, by omega, ?_, by omega, ?_, by omega, ?_⟩
  · have : A0 + A1 = 65536 * (A2 + A3) + (256 * (p1 + p2) + (p0 + p1)) := by omega
    rw [this, Nat.mul_add_div (by decide), Nat.div_eq_of_lt (by omega), Nat.add_zero]
  · have : A0 + A1 + (A2 + A3) = 4294967296 * (A4 + A5 + A6 + A7) + (16777216 * (p3 + p4 + p5 + p6) + 65536 * (p2 + p3 + p4 + p5) + 256 * (p1 + p2 + p3 + p4) + (p0 + p1 + p2 + p3)) := by omega
    rw [this, Nat.mul_add_div (by decide), Nat.div_eq_of_lt (by omega), Nat.add_zero]
  · have : A0 + A1 + (A2 + A3) + (A4 + A5 + A6 + A7) = 128 * (2 * (A1 + A2 + A3 + A4 + A5 + A6 + A7)) + (p0 + p1 + p2 + p3 + p4 + p5 + p6 + p7) := by omega
    rw [this, Nat.mul_add_mod, Nat.mod_eq_of_lt (by omega)]
theorem bc_ok (x : Int64) : J13_bitCount_95d88 x = some (nI (pc x)) := by
  obtain ⟨n, hn, rfl⟩ := wb_of x
  have hh : ∀ m : Nat, cnt (fun i => m.testBit i) 8 ≤ 8 := fun m => cnt_le _ 8
  obtain ⟨ha, ea, hb, eb, hc, ec, hd, hs⟩ := x_sum (A0 := xB 8 n) (hh n) (hh (n / 256)) (hh (n / 256 / 256)) (hh (n / 256 / 256 / 256)) (hh (n / 256 / 256 / 256 / 256)) (hh (n / 256 / 256 / 256 / 256 / 256)) (hh (n / 256 / 256 / 256 / 256 / 256 / 256)) (hh (n / 256 / 256 / 256 / 256 / 256 / 256 / 256)) rfl rfl rfl rfl rfl rfl rfl (Nat.zero_add _)
  have hp : pc (lN n) = sB 8 n := by
    rw [← s_cnt 8 n]
    exact cnt_congr 64 (fun i hi => h_tb i hi)
  have hx := f_x 8 n hn
  have e1 : (6148914691236517205 : Int64) = lN (rep 85 8) := by decide +kernel
  have e2 : (3689348814741910323 : Int64) = lN (rep 51 8) := by decide +kernel
  have e3 : (1085102592571150095 : Int64) = lN (rep 15 8) := by decide +kernel
  have r5 : rep 51 8 < 2 ^ 62 := by decide +kernel
  have r3 : rep 15 8 < 2 ^ 62 := by decide +kernel
  have l1 : f1 8 n ≤ n := Nat.sub_le _ _
  have l2 : f2 8 (f1 8 n) < 2 ^ 63 := by
    unfold f2
    have a1 : f1 8 n &&& rep 51 8 ≤ rep 51 8 := Nat.and_le_right
    have a2 : f1 8 n / 4 &&& rep 51 8 ≤ rep 51 8 := Nat.and_le_right
    omega
  unfold J13_bitCount_95d88 nm
  rw [e1, e2, e3, show (1 : Int32) = nI 1 from rfl, show (2 : Int32) = nI 2 from rfl, show (4 : Int32) = nI 4 from rfl, show (8 : Int32) = nI 8 from rfl, show (16 : Int32) = nI 16 from rfl, show (32 : Int32) = nI 32 from rfl]
  rw [wb_shr hn (by omega), wb_and, lN_sub (f1_le 8 n)]
  show some ((((_ : Int64)).toInt32) &&& 127) = _
  have z1 : n - (n / 2 ^ 1 &&& rep 85 8) = f1 8 n := rfl
  rw [z1, wb_shr (by omega) (by omega), wb_and, wb_and, lN_add]
  have z2 : (f1 8 n &&& rep 51 8) + (f1 8 n / 2 ^ 2 &&& rep 51 8) = f2 8 (f1 8 n) := rfl
  rw [z2, wb_shr (by omega) (by omega), lN_add, wb_and]
  have z3 : (f2 8 (f1 8 n) + f2 8 (f1 8 n) / 2 ^ 4) &&& rep 15 8 = f3 8 (f2 8 (f1 8 n)) := rfl
  rw [z3, hx]
  rw [wb_shr (by omega) (by omega), show (2 : Nat) ^ 8 = 256 from rfl, ea, lN_add, wb_shr (by omega) (by omega), show (2 : Nat) ^ 16 = 65536 from rfl, eb, lN_add, wb_shr (by omega) (by omega), show (2 : Nat) ^ 32 = 4294967296 from rfl, ec, lN_add, lN_i, pk_and _ 7 (by decide)]
  have hsb : sB 8 n = cnt (fun i => n.testBit i) 8 + cnt (fun i => (n / 256).testBit i) 8 + cnt (fun i => (n / 256 / 256).testBit i) 8 + cnt (fun i => (n / 256 / 256 / 256).testBit i) 8 + cnt (fun i => (n / 256 / 256 / 256 / 256).testBit i) 8 + cnt (fun i => (n / 256 / 256 / 256 / 256 / 256).testBit i) 8 + cnt (fun i => (n / 256 / 256 / 256 / 256 / 256 / 256).testBit i) 8 + cnt (fun i => (n / 256 / 256 / 256 / 256 / 256 / 256 / 256).testBit i) 8 := by
    simp only [sB]
    omega
  rw [hp, hsb, ← hs]
  congr 2
  show (BitVec.ofNat 32 _).toNat % 2 ^ 7 = _
  rw [BitVec.toNat_ofNat, show (2 : Nat) ^ 32 = 128 * 33554432 from rfl, Nat.mod_mul_right_mod]
