/-! Bits (the first rows are kit/laws/BITS), then the count of bits as Integer.bitCount does it -/
def bt (x : Int32) (i : Nat) : Bool := x.toBitVec.getLsbD i
theorem b_ext {x y : Int32} (h : ∀ i, i < 32 → bt x i = bt y i) : x = y := Int32.toBitVec_inj.mp (BitVec.eq_of_getLsbD_eq (fun i hi => h i hi))
theorem b_or (x y : Int32) (i : Nat) : bt (x ||| y) i = (bt x i || bt y i) := by unfold bt; rw [Int32.toBitVec_or, BitVec.getLsbD_or]
theorem b_and (x y : Int32) (i : Nat) : bt (x &&& y) i = (bt x i && bt y i) := by unfold bt; rw [Int32.toBitVec_and, BitVec.getLsbD_and]
theorem b_xor (x y : Int32) (i : Nat) : bt (x ^^^ y) i = (bt x i ^^ bt y i) := by unfold bt; rw [Int32.toBitVec_xor, BitVec.getLsbD_xor]
theorem b_big {x : Int32} {i : Nat} (h : 32 ≤ i) : bt x i = false := BitVec.getLsbD_of_ge _ _ h
theorem b_255 (i : Nat) : bt 255 i = decide (i < 8) := by
  rcases Nat.lt_or_ge i 32 with h | h
  · exact (by decide +kernel : ∀ i, i < 32 → bt 255 i = decide (i < 8)) i h
  · rw [b_big h, decide_eq_false (by omega)]
theorem b_65535 (i : Nat) : bt 65535 i = decide (i < 16) := by
  rcases Nat.lt_or_ge i 32 with h | h
  · exact (by decide +kernel : ∀ i, i < 32 → bt 65535 i = decide (i < 16)) i h
  · rw [b_big h, decide_eq_false (by omega)]
theorem b_m1 : ∀ i, i < 32 → bt (-1) i = true := by decide +kernel
theorem b_0 (i : Nat) : bt 0 i = false := BitVec.getLsbD_zero
theorem s_l : ∀ n, n < 32 → ((nI n &&& 31).toBitVec.smod 32).toNat = n := by decide +kernel
theorem s_u : ∀ n, n < 32 → (((nI n).toUInt32 &&& Int32.toUInt32 31).toBitVec % 32).toNat = n := by decide +kernel
theorem b_shl (n : Nat) (hn : n < 32) (x : Int32) {i : Nat} (hi : i < 32) : bt (x <<< (nI n &&& 31)) i = (decide (n ≤ i) && bt x (i - n)) := by
  unfold bt
  rw [Int32.toBitVec_shiftLeft]
  show (x.toBitVec <<< ((nI n &&& 31).toBitVec.smod 32).toNat).getLsbD i = _
  rw [s_l n hn, BitVec.getLsbD_shiftLeft]
  rcases Nat.lt_or_ge i n with h | h
  · simp [h, Nat.not_le.mpr h]
  · simp [hi, h, Nat.not_lt.mpr h]
theorem b_ushr (n : Nat) (hn : n < 32) (x : Int32) (i : Nat) : bt ((x.toUInt32 >>> ((nI n).toUInt32 &&& Int32.toUInt32 31)).toInt32) i = bt x (n + i) := by
  show (x.toUInt32 >>> ((nI n).toUInt32 &&& Int32.toUInt32 31)).toBitVec.getLsbD i = x.toUInt32.toBitVec.getLsbD (n + i)
  rw [UInt32.toBitVec_shiftRight]
  show (x.toUInt32.toBitVec >>> (((nI n).toUInt32 &&& Int32.toUInt32 31).toBitVec % 32).toNat).getLsbD i = _
  rw [s_u n hn, BitVec.getLsbD_ushiftRight]
theorem b_sshr (n : Nat) (hn : n < 32) (x : Int32) {i : Nat} (hi : i < 32) : bt (x >>> (nI n &&& 31)) i = if n + i < 32 then bt x (n + i) else bt x 31 := by
  unfold bt
  rw [Int32.toBitVec_shiftRight]
  show (x.toBitVec.sshiftRight ((nI n &&& 31).toBitVec.smod 32).toNat).getLsbD i = _
  rw [s_l n hn, BitVec.getLsbD_sshiftRight, BitVec.msb_eq_getLsbD_last]
  simp [hi]
theorem nx_and (a b : Nat) : nI a &&& nI b = nI (a &&& b) := by
  apply Int32.toBitVec_inj.1
  show BitVec.ofNat 32 a &&& BitVec.ofNat 32 b = BitVec.ofNat 32 (a &&& b)
  apply BitVec.eq_of_getLsbD_eq
  intro i hi
  simp [hi]
theorem andd (b : Nat) (a m l : Nat) (h : l < 2 ^ b) : a &&& (l + 2 ^ b * m) = (a % 2 ^ b &&& l) + 2 ^ b * ((a / 2 ^ b) &&& m) := by
  have e1 : (l + 2 ^ b * m) % 2 ^ b = l := by rw [Nat.add_mul_mod_self_left, Nat.mod_eq_of_lt h]
  have e2 : (l + 2 ^ b * m) / 2 ^ b = m := by rw [Nat.add_mul_div_left _ _ (Nat.two_pow_pos b), Nat.div_eq_of_lt h, Nat.zero_add]
  have h1 := Nat.mod_add_div (a &&& (l + 2 ^ b * m)) (2 ^ b)
  rw [Nat.and_mod_two_pow, Nat.and_div_two_pow, e1, e2] at h1
  exact h1.symm
def M5 : Nat → Nat
  | 0 => 0
  | k + 1 => 1 + 2 ^ 2 * M5 k
def M3 : Nat → Nat
  | 0 => 0
  | k + 1 => 3 + 2 ^ 4 * M3 k
def M0 : Nat → Nat
  | 0 => 0
  | k + 1 => 15 + 2 ^ 8 * M0 k
def pcN : Nat → Nat → Nat
  | 0, _ => 0
  | k + 1, x => x % 2 + pcN k (x / 2)
theorem pcN_le : ∀ k x, pcN k x ≤ k
  | 0, _ => Nat.le_refl 0
  | k + 1, x => by
    have := pcN_le k (x / 2)
    rw [pcN]
    omega
theorem pcN_add : ∀ a b x, pcN (a + b) x = pcN a x + pcN b (x / 2 ^ a)
  | 0, b, x => by simp [pcN]
  | a + 1, b, x => by
    rw [show a + 1 + b = a + b + 1 by omega, pcN, pcN, pcN_add a b (x / 2), Nat.pow_succ, Nat.mul_comm (2 ^ a) 2, ← Nat.div_div_eq_div_mul, Nat.add_assoc]
def A1 : Nat → Nat → Nat
  | 0, _ => 0
  | k + 1, x => pcN 2 x + 4 * A1 k (x / 4)
def A2 : Nat → Nat → Nat
  | 0, _ => 0
  | k + 1, x => pcN 4 x + 16 * A2 k (x / 16)
def A3 : Nat → Nat → Nat
  | 0, _ => 0
  | k + 1, x => pcN 8 x + 256 * A3 k (x / 256)
theorem and1 (a : Nat) : a % 4 &&& 1 = a % 2 := by rw [Nat.and_one_is_mod]; omega
theorem and3 (a : Nat) : a % 16 &&& 3 = a % 4 := by
  have := Nat.and_two_pow_sub_one_eq_mod (a % 16) 2
  rw [show (2 : Nat) ^ 2 - 1 = 3 from rfl] at this
  rw [this]; omega
theorem and15 (a : Nat) : a % 256 &&& 15 = a % 16 := by
  have := Nat.and_two_pow_sub_one_eq_mod (a % 256) 4
  rw [show (2 : Nat) ^ 4 - 1 = 15 from rfl] at this
  rw [this]; omega
theorem pc2 (x : Nat) : pcN 2 x = x % 2 + x / 2 % 2 := by simp [pcN]
theorem sw1 : ∀ k x, x < 4 ^ k → ((x / 2) &&& M5 k) ≤ x ∧ x - ((x / 2) &&& M5 k) = A1 k x
  | 0, x, h => by
    have : x = 0 := by simpa using h
    subst this
    decide
  | k + 1, x, h => by
    have hq : x / 4 < 4 ^ k := by rw [Nat.pow_succ] at h; omega
    obtain ⟨i1, i2⟩ := sw1 k (x / 4) hq
    rw [M5, A1, andd 2 _ _ _ (by decide), show (2 : Nat) ^ 2 = 4 from rfl, and1, show x / 2 / 4 = x / 4 / 2 by omega, pc2]
    generalize (x / 4 / 2 &&& M5 k) = w at i1 i2 ⊢
    omega
theorem sw2 : ∀ k y, (y &&& M3 k) + ((y / 4) &&& M3 k) = (match k with | 0 => 0 | k + 1 => (y % 4 + y / 4 % 4) + 16 * (((y / 16) &&& M3 k) + ((y / 16 / 4) &&& M3 k)))
  | 0, y => by simp [M3]
  | k + 1, y => by
    rw [M3, andd 4 _ _ _ (by decide), andd 4 _ _ _ (by decide), show (2 : Nat) ^ 4 = 16 from rfl, and3, and3, show y / 4 / 16 = y / 16 / 4 by omega]
    dsimp only
    omega
theorem sw2' : ∀ k x, (A1 (2 * k) x &&& M3 k) + ((A1 (2 * k) x / 4) &&& M3 k) = A2 k x
  | 0, x => by simp [M3, A2]
  | k + 1, x => by
    rw [sw2]
    dsimp only
    have e : A1 (2 * (k + 1)) x = pcN 2 x + 4 * (pcN 2 (x / 4) + 4 * A1 (2 * k) (x / 16)) := by
      rw [show 2 * (k + 1) = 2 * k + 1 + 1 by omega, A1, A1, show x / 4 / 4 = x / 16 by omega]
    have h1 := pcN_le 2 x
    have h2 := pcN_le 2 (x / 4)
    rw [show A1 (2 * (k + 1)) x / 16 = A1 (2 * k) (x / 16) by rw [e]; omega, show A1 (2 * (k + 1)) x % 4 = pcN 2 x by rw [e]; omega, show A1 (2 * (k + 1)) x / 4 % 4 = pcN 2 (x / 4) by rw [e]; omega, sw2' k (x / 16), A2]
    congr 1
    rw [pc2, pc2]
    simp only [pcN]
    omega
theorem A2_dig : ∀ k x, A2 k x % 16 ≤ 4
  | 0, x => by simp [A2]
  | k + 1, x => by
    have := pcN_le 4 x
    rw [A2]
    omega
theorem sw3 : ∀ k x, (A2 (2 * k) x + A2 (2 * k) x / 16) &&& M0 k = A3 k x
  | 0, x => by simp [M0, A3]
  | k + 1, x => by
    have e : A2 (2 * (k + 1)) x = pcN 4 x + 16 * (pcN 4 (x / 16) + 16 * A2 (2 * k) (x / 256)) := by
      rw [show 2 * (k + 1) = 2 * k + 1 + 1 by omega, A2, A2, show x / 16 / 16 = x / 256 by omega]
    have h1 := pcN_le 4 x
    have h2 := pcN_le 4 (x / 16)
    have h3 := A2_dig (2 * k) (x / 256)
    rw [M0, andd 8 _ _ _ (by decide), show (2 : Nat) ^ 8 = 256 from rfl, and15, A3, ← sw3 k (x / 256), e]
    generalize A2 (2 * k) (x / 256) = z at h3 ⊢
    rw [show (pcN 4 x + 16 * (pcN 4 (x / 16) + 16 * z) + (pcN 4 x + 16 * (pcN 4 (x / 16) + 16 * z)) / 16) / 256 = z + z / 16 by omega]
    congr 1
    rw [show (pcN 4 x + 16 * (pcN 4 (x / 16) + 16 * z) + (pcN 4 x + 16 * (pcN 4 (x / 16) + 16 * z)) / 16) % 16 = pcN 4 x + pcN 4 (x / 16) by omega]
    simp only [pcN]
    omega
theorem sw4 (x : Nat) : (let w := A3 4 x; let u := w + w / 256; (u + u / 65536) % 64) = pcN 32 x := by
  dsimp only
  have h1 := pcN_le 8 x
  have h2 := pcN_le 8 (x / 256)
  have h3 := pcN_le 8 (x / 65536)
  have h4 := pcN_le 8 (x / 16777216)
  have e : A3 4 x = pcN 8 x + 256 * (pcN 8 (x / 256) + 256 * (pcN 8 (x / 65536) + 256 * pcN 8 (x / 16777216))) := by
    simp only [A3, show x / 256 / 256 = x / 65536 by omega, show x / 65536 / 256 = x / 16777216 by omega]
    omega
  have e2 : pcN 32 x = pcN 8 x + (pcN 8 (x / 256) + (pcN 8 (x / 65536) + pcN 8 (x / 16777216))) := by
    rw [show 32 = 8 + (8 + (8 + 8)) from rfl, pcN_add, pcN_add, pcN_add, show x / 2 ^ 8 / 2 ^ 8 = x / 65536 by omega, show x / 65536 / 2 ^ 8 = x / 16777216 by omega]
  rw [e, e2]
  generalize pcN 8 x = a at *
  generalize pcN 8 (x / 256) = b at *
  generalize pcN 8 (x / 65536) = c at *
  generalize pcN 8 (x / 16777216) = d at *
  rw [show (a + 256 * (b + 256 * (c + 256 * d))) / 256 = b + 256 * (c + 256 * d) by omega]
  rw [show (a + 256 * (b + 256 * (c + 256 * d)) + (b + 256 * (c + 256 * d))) / 65536 = c + d + 256 * d by omega]
  omega
theorem bitCount_eq (N : Nat) (σ : zS) (x : Int32) : m_J6_bitCount_0f7a4 N σ x = some (nI (pcN 32 x.toBitVec.toNat)) := by
  obtain ⟨X, hX, hx⟩ : ∃ X : Nat, X < 2 ^ 32 ∧ x = nI X := ⟨x.toBitVec.toNat, x.toBitVec.isLt, by
    apply Int32.toBitVec_inj.mp
    show x.toBitVec = BitVec.ofNat 32 x.toBitVec.toNat
    simp⟩
  subst hx
  have hb : (nI X).toBitVec.toNat = X := pk_tn hX
  rw [hb]
  unfold m_J6_bitCount_0f7a4
  simp only [Option.bind_some]
  have us : ∀ (n k : Nat) (s : Int32), n < 2 ^ 32 → ((s.toUInt32 &&& Int32.toUInt32 31).toBitVec % 32).toNat = k → iushr (nI n) s = nI (n / 2 ^ k) := fun n k s h1 h2 => pk_ushrN h1 s k h2
  have m5 : (1431655765 : Int32) = nI (M5 16) := by decide +kernel
  have m3 : (858993459 : Int32) = nI (M3 8) := by decide +kernel
  have m0 : (252645135 : Int32) = nI (M0 4) := by decide +kernel
  have m6 : (63 : Int32) = nI 63 := rfl
  obtain ⟨s1, s2⟩ := sw1 16 X (by omega)
  have t1 : A1 16 X < 2 ^ 32 := by rw [← s2]; omega
  have t2 : A2 8 X < 2 ^ 32 := by
    simp only [A2]
    have := pcN_le 4
    have a0 := pcN_le 4 X
    have a1 := pcN_le 4 (X / 16)
    have a2 := pcN_le 4 (X / 16 / 16)
    have a3 := pcN_le 4 (X / 16 / 16 / 16)
    have a4 := pcN_le 4 (X / 16 / 16 / 16 / 16)
    have a5 := pcN_le 4 (X / 16 / 16 / 16 / 16 / 16)
    have a6 := pcN_le 4 (X / 16 / 16 / 16 / 16 / 16 / 16)
    have a7 := pcN_le 4 (X / 16 / 16 / 16 / 16 / 16 / 16 / 16)
    omega
  have t3 : A3 4 X + A3 4 X / 256 < 2 ^ 31 := by
    simp only [A3]
    have a0 := pcN_le 8 X
    have a1 := pcN_le 8 (X / 256)
    have a2 := pcN_le 8 (X / 256 / 256)
    have a3 := pcN_le 8 (X / 256 / 256 / 256)
    omega
  rw [us X 1 1 hX (by decide), m5, nx_and, show (2 : Nat) ^ 1 = 2 from rfl, pk_sub s1, s2, us _ 2 2 t1 (by decide), m3, nx_and, nx_and, nI_add, show (2 : Nat) ^ 2 = 4 from rfl, sw2' 8 X, us _ 4 4 t2 (by decide), nI_add, m0, nx_and, show (2 : Nat) ^ 4 = 16 from rfl, sw3 4 X, us _ 8 8 (by omega) (by decide), nI_add, show (2 : Nat) ^ 8 = 256 from rfl, us _ 16 16 (by omega) (by decide), nI_add, show (2 : Nat) ^ 16 = 65536 from rfl, m6, nx_and]
  have w := sw4 X
  dsimp only at w
  rw [show ∀ z : Nat, z &&& 63 = z % 64 from fun z => Nat.and_two_pow_sub_one_eq_mod z 6, w]
theorem lit_bit (x : Int32) {j : Nat} (hj : j < 32) : ((x >>> (nI j &&& 31)) &&& 1) = nI (x.toBitVec.toNat / 2 ^ j % 2) := by
  apply b_ext
  intro i hi
  rw [b_and, b_sshr j hj x hi]
  have h1 : bt 1 i = decide (i = 0) := (by decide +kernel : ∀ i, i < 32 → bt 1 i = decide (i = 0)) i hi
  rw [h1]
  have h2 : bt (nI (x.toBitVec.toNat / 2 ^ j % 2)) i = (decide (i = 0) && bt x j) := by
    unfold bt
    have e : bt x j = decide (x.toBitVec.toNat / 2 ^ j % 2 = 1) := by
      unfold bt
      rw [BitVec.getLsbD, Nat.testBit_eq_decide_div_mod_eq]
    have e' : x.toBitVec.getLsbD j = decide (x.toBitVec.toNat / 2 ^ j % 2 = 1) := e
    rw [e']
    rcases Nat.mod_two_eq_zero_or_one (x.toBitVec.toNat / 2 ^ j) with h | h
    · rw [h]
      have : ∀ i, i < 32 → (nI 0).toBitVec.getLsbD i = (decide (i = 0) && decide (0 = 1)) := by decide +kernel
      exact this i hi
    · rw [h]
      have : ∀ i, i < 32 → (nI 1).toBitVec.getLsbD i = (decide (i = 0) && decide (1 = 1)) := by decide +kernel
      exact this i hi
  rw [h2]
  by_cases h0 : i = 0
  · subst h0
    simp [hj]
  · simp [h0]
