/-! Pure, 20: the bits of an error -/
theorem lshl_lN {n k : Nat} (hk : k < 64) (h : n * 2 ^ k < 2 ^ 63) : lshl (lN n) (nI k) = lN (n * 2 ^ k) := by
  have hs : ∀ k, k < 64 → (((nI k).toInt64 &&& 63).toBitVec.smod 64).toNat = k := by decide +kernel
  have hn : n < 2 ^ 63 := Nat.lt_of_le_of_lt (Nat.le_mul_of_pos_right n (Nat.two_pow_pos k)) h
  unfold lshl
  apply Int64.toBitVec_inj.mp
  apply BitVec.eq_of_toNat_eq
  show ((lN n).toBitVec <<< (((nI k).toInt64 &&& 63).toBitVec.smod 64).toNat).toNat = _
  rw [hs k hk, BitVec.toNat_shiftLeft, Nat.shiftLeft_eq]
  show n % 2 ^ 64 * 2 ^ k % 2 ^ 64 = n * 2 ^ k % 2 ^ 64
  rw [Nat.mod_eq_of_lt (show n < 2 ^ 64 by omega)]
theorem pow_bd {A j m : Nat} (hA : A ≤ 1000) (hj : j ≤ m) : A * 2 ^ j ≤ 1000 * 2 ^ m := Nat.mul_le_mul hA (Nat.pow_le_pow_right (by decide) hj)
theorem bq_loop {N : Nat} {σ : zS} {v0 v1 : Int32} {A B s : Nat} (hA : A ≤ 1000) (hB : B ≤ 1000) (hs : s ≤ 33) (h1 : B * 2 ^ 23 ≤ A * 2 ^ s) (h2 : ∀ j, j < s → ¬ B * 2 ^ 23 ≤ A * 2 ^ j) : ∀ d j n, j + d = s → d < n → m_X8_bitsOfQuotient_L26 N n σ v0 v1 (lN A) (lN (B * 2 ^ 23)) (nI j) = some (nI s) := by
  have hb : B * 2 ^ 23 < 2 ^ 63 := Nat.lt_of_le_of_lt (pow_bd hB (Nat.le_refl 23)) (by decide)
  have ha : ∀ j, j ≤ 33 → A * 2 ^ j < 2 ^ 63 := fun j hj => Nat.lt_of_le_of_lt (pow_bd hA hj) (by decide)
  intro d
  induction d with
  | zero =>
    intro j n hj hn
    obtain ⟨n, rfl⟩ : ∃ m, n = m + 1 := ⟨n - 1, by omega⟩
    have : j = s := by omega
    subst this
    rw [m_X8_bitsOfQuotient_L26, if_neg (litge 40 (by omega) (by decide)), lshl_lN (by omega) (ha j hs), if_pos ((lg_cmp_ge _ _).mpr ((pk_lLE hb (ha j hs)).mpr h1))]
  | succ d ih =>
    intro j n hj hn
    obtain ⟨n, rfl⟩ : ∃ m, n = m + 1 := ⟨n - 1, by omega⟩
    rw [m_X8_bitsOfQuotient_L26, if_neg (litge 40 (by omega) (by decide)), lshl_lN (by omega) (ha j (by omega)), if_neg (fun q => h2 j (by omega) ((pk_lLE hb (ha j (by omega))).mp ((lg_cmp_ge _ _).mp q))), Option.bind_some, nI_1, ih (j + 1) n (by omega) (by omega)]
/-- the shift of a quotient -/
theorem bq_shift {A B : Nat} (hA0 : 0 < A) (hA : A ≤ 1000) (hB0 : 0 < B) (hB : B ≤ 1000) : ∃ s, 14 ≤ s ∧ s ≤ 33 ∧ B * 2 ^ 23 ≤ A * 2 ^ s ∧ A * 2 ^ s < B * 2 ^ 24 ∧ ∀ j, j < s → ¬ B * 2 ^ 23 ≤ A * 2 ^ j := by
  obtain ⟨s, h1, h2⟩ := pk_least (fun s => B * 2 ^ 23 ≤ A * 2 ^ s) ⟨33, by
    have e1 : (2 : Nat) ^ 23 = 8388608 := by decide
    have e2 : (2 : Nat) ^ 33 = 8589934592 := by decide
    rw [e1, e2]
    omega⟩
  have e1 : (2 : Nat) ^ 23 = 8388608 := by decide
  have e2 : (2 : Nat) ^ 33 = 8589934592 := by decide
  have e3 : (2 : Nat) ^ 24 = 16777216 := by decide
  have e4 : (2 : Nat) ^ 13 = 8192 := by decide
  have g1 : s ≤ 33 := by
    by_cases c : s ≤ 33
    · exact c
    · exact absurd (show B * 2 ^ 23 ≤ A * 2 ^ 33 by rw [e1, e2]; omega) (h2 33 (by omega))
  have g2 : 14 ≤ s := by
    by_cases c : 14 ≤ s
    · exact c
    · have := Nat.le_trans h1 (pow_bd hA (show s ≤ 13 by omega))
      rw [e1, e4] at this
      omega
  refine ⟨s, g2, g1, h1, ?_, h2⟩
  have := h2 (s - 1) (by omega)
  have e5 : (2 : Nat) ^ s = 2 ^ (s - 1) * 2 := by rw [← Nat.pow_succ]; congr 1; omega
  rw [e5, e3, ← Nat.mul_assoc]
  rw [e1] at this
  generalize A * 2 ^ (s - 1) = x at this ⊢
  omega
theorem no_tie : ∀ s A x k : Nat, A * 2 ^ s = x * (2 * k + 1) → 0 < x → 2 ^ s ≤ x := by
  intro s
  induction s with
  | zero => intro A x k _ h; exact h
  | succ s ih =>
    intro A x k h hx
    have e1 : A * 2 ^ (s + 1) = 2 * (A * 2 ^ s) := by rw [Nat.pow_succ]; ac_rfl
    have e2 : x * (2 * k + 1) = 2 * (x * k) + x := by rw [Nat.mul_add, Nat.mul_one]; congr 1; ac_rfl
    rw [e1, e2] at h
    obtain ⟨y, rfl⟩ : ∃ y, x = 2 * y := ⟨x / 2, by generalize A * 2 ^ s = a at h; generalize x * k = b at h; omega⟩
    have := ih A y k (by
      rw [Nat.mul_add, Nat.mul_one, show y * (2 * k) = 2 * (y * k) by ac_rfl]
      rw [show 2 * y * k = 2 * (y * k) by ac_rfl] at h
      generalize A * 2 ^ s = a at h ⊢
      generalize y * k = b at h ⊢
      omega) (by omega)
    rw [Nat.pow_succ]
    omega
theorem near_up {X B : Nat} (hB : 0 < B) (h : 2 * (X % B) ≠ B) : FP.Core.nearest X B = (2 * X / B + 1) / 2 := by
  have hX : B * (X / B) + X % B = X := Nat.div_add_mod X B
  have hlt := Nat.mod_lt X hB
  unfold FP.Core.nearest
  generalize X / B = k at *
  generalize X % B = r at *
  subst hX
  have e : 2 * (B * k + r) = 2 * r + B * (2 * k) := by rw [Nat.mul_add, Nat.add_comm]; congr 1; ac_rfl
  rw [e, Nat.add_mul_div_left _ _ hB]
  by_cases c : 2 * r < B
  · rw [if_pos c, Nat.div_eq_of_lt c]
    omega
  · rw [if_neg c, if_pos (by omega)]
    have : 2 * r / B = 1 := by
      rw [show 2 * r = (2 * r - B) + B by omega, Nat.add_div_right _ hB, Nat.div_eq_of_lt (by omega)]
    rw [this]
    omega
/-- the digits of a quotient -/
def dgN (A B s : Nat) : Nat := (A * 2 ^ (s + 1) / B + 1) / 2
theorem dg_near {A B s : Nat} (hB0 : 0 < B) (hB : B ≤ 1000) (hs : 14 ≤ s) : FP.Core.nearest (A * 2 ^ s) B = dgN A B s := by
  rw [near_up hB0, dgN, Nat.pow_succ, show 2 * (A * 2 ^ s) = A * (2 ^ s * 2) by ac_rfl]
  intro h
  have hX : B * (A * 2 ^ s / B) + A * 2 ^ s % B = A * 2 ^ s := Nat.div_add_mod _ _
  generalize A * 2 ^ s / B = k at hX
  generalize hr : A * 2 ^ s % B = r at hX h
  have := no_tie s A r k (by rw [← hX, ← h, Nat.mul_add, Nat.mul_one]; congr 1; ac_rfl) (by omega)
  have : (2 : Nat) ^ 14 ≤ 2 ^ s := Nat.pow_le_pow_right (by decide) hs
  have : (2 : Nat) ^ 14 = 16384 := by decide
  omega
theorem dg_in {A B s : Nat} (hB0 : 0 < B) (hB : B ≤ 1000) (hs : 14 ≤ s) (h1 : B * 2 ^ 23 ≤ A * 2 ^ s) (h2 : A * 2 ^ s < B * 2 ^ 24) : 8388608 ≤ dgN A B s ∧ dgN A B s ≤ 16777216 := by
  rw [← dg_near hB0 hB hs]
  exact ⟨FP.Core.nearest_ge hB0 (by rw [Nat.mul_comm 8388608 B]; exact h1), FP.Core.nearest_le hB0 (by rw [Nat.mul_comm 16777216 B]; exact Nat.le_of_lt h2)⟩
theorem b32_q : FP.Core.b32.qmin = -149 ∧ FP.Core.b32.qmax = 104 ∧ FP.Core.b32.tails = 8388608 ∧ FP.Core.b32.exps = 256 ∧ (2 : Nat) ^ FP.Core.b32.p = 16777216 ∧ FP.Core.b32.p = 24 := by decide
theorem fl_int {n : Nat} (sg : Bool) (h0 : 0 < n) (h : n ≤ 1000) : FP.Core.roundRatio FP.Core.b32 sg n 1 0 = .fin sg (n * 2 ^ (23 - n.log2)) ((n.log2 : Int) - 23) := by
  have l1 : 2 ^ n.log2 ≤ n := Nat.log2_self_le (by omega)
  have l2 : n < 2 ^ (n.log2 + 1) := Nat.lt_log2_self
  have l3 : n.log2 ≤ 9 := by
    by_cases c : n.log2 ≤ 9
    · exact c
    · have : (2 : Nat) ^ 10 ≤ 2 ^ n.log2 := Nat.pow_le_pow_right (by decide) (by omega)
      have : (2 : Nat) ^ 10 = 1024 := by decide
      omega
  obtain ⟨q1, q2, q3, q4, q5, q6⟩ := b32_q
  generalize n.log2 = L at l1 l2 l3 ⊢
  have p1 := Nat.two_pow_pos (23 - L)
  refine FP.Core.roundRatio_exact FP.Core.good_b32 (by decide) ⟨?_, ?_, ?_, Or.inr ?_⟩ ?_
  · rw [q6]
    calc n * 2 ^ (23 - L) < 2 ^ (L + 1) * 2 ^ (23 - L) := Nat.mul_lt_mul_of_pos_right l2 p1
      _ = 2 ^ 24 := by rw [← Nat.pow_add]; congr 1; omega
  · rw [q1]; omega
  · rw [q2]; omega
  · rw [q3]
    calc 8388608 = 2 ^ L * 2 ^ (23 - L) := by rw [← Nat.pow_add, show L + (23 - L) = 23 by omega]
      _ ≤ n * 2 ^ (23 - L) := Nat.mul_le_mul_right _ l1
  · rw [show ((0 : Int) - ((L : Int) - 23)).toNat = 23 - L by omega, show (((L : Int) - 23) - 0).toNat = 0 by omega, Nat.pow_zero, Nat.mul_one, Nat.mul_one]
def sgI (sg : Bool) (A : Nat) : Int32 := if sg then nI 0 - nI A else nI A
theorem sgI_val {sg : Bool} {A : Nat} (h0 : 0 < A) (h : A ≤ 1000) : FP.Core.val32 (FP.i2f (sgI sg A)) = .fin sg (A * 2 ^ (23 - A.log2)) ((A.log2 : Int) - 23) := by
  rw [show FP.Core.val32 (FP.i2f (sgI sg A)) = FP.Core.roundRatio FP.Core.b32 (decide ((sgI sg A).toInt < 0)) (sgI sg A).toInt.natAbs 1 0 from FP.Core.val32_i2f _]
  have : (sgI sg A).toInt = if sg then -(A : Int) else A := by
    unfold sgI
    cases sg
    · exact nI_toInt (by omega)
    · show (nI 0 - nI A).toInt = -(A : Int)
      rw [pk_sub_toInt (by omega) (by omega)]
      omega
  rw [this, ← fl_int sg h0 h]
  cases sg
  · show FP.Core.roundRatio _ (decide ((A : Int) < 0)) (A : Int).natAbs 1 0 = _
    rw [show decide ((A : Int) < 0) = false from decide_eq_false (by omega), Int.natAbs_natCast]
  · show FP.Core.roundRatio _ (decide (-(A : Int) < 0)) (-(A : Int)).natAbs 1 0 = _
    rw [show decide (-(A : Int) < 0) = true from decide_eq_true (by omega), Int.natAbs_neg, Int.natAbs_natCast]
theorem fl_quot {sg : Bool} {A B s : Nat} (hA0 : 0 < A) (hA : A ≤ 1000) (hB0 : 0 < B) (hB : B ≤ 1000) (hs : 14 ≤ s) (hs2 : s ≤ 33) (h1 : B * 2 ^ 23 ≤ A * 2 ^ s) (h2 : A * 2 ^ s < B * 2 ^ 24) : FP.Core.quotient FP.Core.b32 (FP.Core.val32 (FP.i2f (sgI sg A))) (FP.Core.val32 (FP.i2f (nI B))) = FP.Core.settle FP.Core.b32 sg (dgN A B s) (-(s : Int)) := by
  obtain ⟨q1, q2, q3, q4, q5, q6⟩ := b32_q
  have lg : ∀ n : Nat, 0 < n → n ≤ 1000 → n.log2 ≤ 9 := fun n h0 h => by
    by_cases c : n.log2 ≤ 9
    · exact c
    · have : (2 : Nat) ^ 10 ≤ 2 ^ n.log2 := Nat.pow_le_pow_right (by decide) (by omega)
      have : (2 : Nat) ^ 10 = 1024 := by decide
      have : 2 ^ n.log2 ≤ n := Nat.log2_self_le (by omega)
      omega
  have la := lg A hA0 hA
  have lb := lg B hB0 hB
  rw [sgI_val hA0 hA, show FP.Core.val32 (FP.i2f (nI B)) = _ from sgI_val (sg := false) hB0 hB]
  have pb : ¬ B * 2 ^ (23 - B.log2) = 0 := Nat.pos_iff_ne_zero.mp (Nat.mul_pos hB0 (Nat.two_pow_pos _))
  show (if B * 2 ^ (23 - B.log2) = 0 then _ else FP.Core.roundRatio FP.Core.b32 (sg != false) _ _ _) = _
  rw [if_neg pb, show (sg != false) = sg by cases sg <;> rfl]
  rw [FP.Core.roundRatio_congr (A' := A) (B' := B) (e' := 0) (by omega) hB0 (by
    rw [show A * 2 ^ (23 - A.log2) * B * 2 ^ ((A.log2 : Int) - 23 - ((B.log2 : Int) - 23) - 0).toNat = A * B * (2 ^ (23 - A.log2) * 2 ^ ((A.log2 : Int) - 23 - ((B.log2 : Int) - 23) - 0).toNat) by ac_rfl, show A * (B * 2 ^ (23 - B.log2)) * 2 ^ ((0 : Int) - ((A.log2 : Int) - 23 - ((B.log2 : Int) - 23))).toNat = A * B * (2 ^ (23 - B.log2) * 2 ^ ((0 : Int) - ((A.log2 : Int) - 23 - ((B.log2 : Int) - 23))).toNat) by ac_rfl, ← Nat.pow_add, ← Nat.pow_add]
    congr 2
    omega)]
  unfold FP.Core.roundRatio
  rw [if_neg (by omega), FP.Core.quantum_eq (q := -(s : Int)) hA0 hB0 (by rw [q1]; omega) (by
    rw [q6, show -(s : Int) - 0 + ((24 : Nat) : Int) = ((24 : Nat) : Int) - (s : Nat) by omega, FP.Core.below_iff]
    exact h2) (Or.inr (by
    rw [q6, show -(s : Int) - 0 + (((24 : Nat) : Int) - 1) = ((23 : Nat) : Int) - (s : Nat) by omega, FP.Core.below_iff]
    exact Nat.not_lt.mpr h1))]
  unfold FP.Core.roundAt FP.Core.unitsNum FP.Core.unitsDen
  rw [show ((0 : Int) - -(s : Int)).toNat = s by omega, show (-(s : Int) - 0).toNat = 0 by omega, Nat.pow_zero, Nat.mul_one, dg_near hB0 hB hs]
/-- the bits, with the sign's -/
def bqN (A B s : Nat) : Nat := (150 - s) * 8388608 + (dgN A B s - 8388608)
theorem bqN_lt {A B s : Nat} (h : dgN A B s ≤ 16777216) : bqN A B s < 1275068416 := by
  unfold bqN
  generalize dgN A B s = D at h
  omega
theorem asm1 (g s x : Nat) : (g * 256 + (150 - s)) * 8388608 + x = g * 2147483648 + ((150 - s) * 8388608 + x) := by omega
theorem asm2 (g s : Nat) (h : s ≤ 33) : (g * 256 + (151 - s)) * 8388608 + 0 = g * 2147483648 + ((150 - s) * 8388608 + (16777216 - 8388608)) := by omega
theorem sh_lt (s : Nat) : (150 - s) * 2 ^ 23 < 2 ^ 32 := Nat.lt_of_le_of_lt (Nat.mul_le_mul_right _ (Nat.sub_le 150 s)) (by decide)
theorem fl_bits {sg : Bool} {A B s : Nat} (hA0 : 0 < A) (hA : A ≤ 1000) (hB0 : 0 < B) (hB : B ≤ 1000) (hs : 14 ≤ s) (hs2 : s ≤ 33) (h1 : B * 2 ^ 23 ≤ A * 2 ^ s) (h2 : A * 2 ^ s < B * 2 ^ 24) : FP.fdiv (FP.i2f (sgI sg A)) (FP.i2f (nI B)) = UInt32.ofNat (sg.toNat * 2147483648 + bqN A B s) ∧ FP.Core.val32 (FP.fdiv (FP.i2f (sgI sg A)) (FP.i2f (nI B))) ≠ .nan := by
  obtain ⟨q1, q2, q3, q4, q5, q6⟩ := b32_q
  have hd := dg_in hB0 hB hs h1 h2
  have e1 : FP.fdiv (FP.i2f (sgI sg A)) (FP.i2f (nI B)) = UInt32.ofNat (FP.Core.encode FP.Core.b32 (FP.Core.quotient FP.Core.b32 (FP.Core.val32 (FP.i2f (sgI sg A))) (FP.Core.val32 (FP.i2f (nI B))))) := rfl
  have e2 : FP.Core.val32 (FP.fdiv (FP.i2f (sgI sg A)) (FP.i2f (nI B))) = FP.Core.quotient FP.Core.b32 (FP.Core.val32 (FP.i2f (sgI sg A))) (FP.Core.val32 (FP.i2f (nI B))) := FP.Core.val32_fdiv _ _
  rw [e2, e1, fl_quot hA0 hA hB0 hB hs hs2 h1 h2]
  unfold FP.Core.settle FP.Core.bound bqN
  by_cases c : dgN A B s < 2 ^ FP.Core.b32.p
  · rw [if_pos c, if_pos (by rw [q2]; omega)]
    refine ⟨?_, fun q => by cases q⟩
    refine congrArg UInt32.ofNat ?_
    show (if dgN A B s < FP.Core.b32.tails then _ else FP.Core.assemble FP.Core.b32 sg ((-(s : Int) - FP.Core.b32.qmin).toNat + 1) (dgN A B s - FP.Core.b32.tails)) = _
    rw [q3, if_neg (by omega), q1]
    unfold FP.Core.assemble
    rw [q3, q4]
    rw [show (-(s : Int) - -149).toNat + 1 = 150 - s by omega]
    exact asm1 _ _ _
  · rw [if_neg c, if_pos (by rw [q2]; omega)]
    refine ⟨?_, fun q => by cases q⟩
    refine congrArg UInt32.ofNat ?_
    show (if FP.Core.b32.tails < FP.Core.b32.tails then FP.Core.assemble FP.Core.b32 sg 0 FP.Core.b32.tails else FP.Core.assemble FP.Core.b32 sg ((-(s : Int) + 1 - FP.Core.b32.qmin).toNat + 1) (FP.Core.b32.tails - FP.Core.b32.tails)) = _
    rw [q3, if_neg (by omega), q1]
    unfold FP.Core.assemble
    rw [q3, q4]
    rw [show (-(s : Int) + 1 - -149).toNat + 1 = 151 - s by omega, show dgN A B s = 16777216 by rw [q5] at c; omega]
    exact asm2 _ _ hs2
theorem or_top {Q : Nat} (h : Q < 2147483648) : nI Q ||| (-2147483648) = nI (2147483648 + Q) := by
  apply Int32.toBitVec_inj.mp
  apply BitVec.eq_of_toNat_eq
  rw [Int32.toBitVec_or, BitVec.toNat_or, pk_tn (by omega), pk_tn (by omega), show ((-2147483648 : Int32)).toBitVec.toNat = 2 ^ 31 * 1 by decide, Nat.or_comm, ← Nat.two_pow_add_eq_or_of_lt (by omega)]
theorem neg_neg1000 : ∀ A : Nat, A < 1001 → (0 : Int32) - (nI 0 - nI A) = nI A := by decide +kernel
theorem iabs_sg {sg : Bool} {A : Nat} (h : A ≤ 1000) : iabs (sgI sg A) = nI A ∧ (0 ≤ sgI sg A ↔ (sg = false ∨ A = 0)) := by
  unfold iabs sgI
  cases sg
  · exact ⟨if_pos (nI_pos' (by omega)), fun _ => Or.inl rfl, fun _ => nI_pos' (by omega)⟩
  · rw [if_pos rfl]
    by_cases c : A = 0
    · subst c
      exact ⟨by decide, fun _ => Or.inr rfl, fun _ => by decide⟩
    · have := pk_sneg (a := 0) (b := A) (by omega) (by omega)
      refine ⟨?_, fun q => absurd q (Int32.not_le.mpr this), fun q => ?_⟩
      · rw [if_neg (Int32.not_le.mpr this)]
        exact neg_neg1000 A (by omega)
      · rcases q with q | q
        · cases q
        · exact absurd q c
theorem bits_X8 {N : Nat} {σ : zS} {sg : Bool} {A B s : Nat} (hN : 50 < N) (hA0 : 0 < A) (hA : A ≤ 1000) (hB0 : 0 < B) (hB : B ≤ 1000) (hs : 14 ≤ s) (hs2 : s ≤ 33) (h1 : B * 2 ^ 23 ≤ A * 2 ^ s) (h2 : A * 2 ^ s < B * 2 ^ 24) (h3 : ∀ j, j < s → ¬ B * 2 ^ 23 ≤ A * 2 ^ j) : m_X8_bitsOfQuotient N σ (sgI sg A) (nI B) = some (nI (sg.toNat * 2147483648 + bqN A B s)) := by
  have hd := dg_in hB0 hB hs h1 h2
  have hi := iabs_sg (sg := sg) hA
  have b1 : A * 2 ^ (s + 1) < 2 ^ 63 := Nat.lt_of_le_of_lt (pow_bd hA (show s + 1 ≤ 34 by omega)) (by decide)
  have b2' : B * 2 ^ 23 < 2 ^ 63 := Nat.lt_of_le_of_lt (pow_bd hB (Nat.le_refl 23)) (by decide)
  have hne : ¬ sgI sg A = 0 := fun q => by
    have e := hi.1
    rw [q] at e
    rw [show iabs 0 = nI 0 from rfl, nI_eq (by decide) (by omega)] at e
    omega
  have hq : A * 2 ^ (s + 1) / B ≤ A * 2 ^ (s + 1) := Nat.div_le_self _ _
  have lp : m_X8_bitsOfQuotient_L26 N N σ (sgI sg A) (nI B) (lN A) (lN (B * 2 ^ 23)) 0 = some (nI s) := bq_loop hA hB hs2 h1 h3 s 0 N (by omega) (by omega)
  unfold m_X8_bitsOfQuotient
  rw [if_neg hne, if_pos (by rw [show (0 : Int32) = nI 0 from rfl]; exact nI_lt hB0 (by omega)), hi.1, Option.bind_some, nI_l (show A < 2 ^ 31 by omega), nI_l (show B < 2 ^ 31 by omega), show (23 : Int32) = nI 23 from rfl, lshl_lN (by decide) b2', Option.bind_some, lp, Option.bind_some]
  have d1 : ckDL (lN B) = some () := by
    unfold ckDL
    rw [if_neg (by rw [show (0 : Int64) = lN 0 from rfl, pk_lEQ (by omega) (by decide)]; omega)]
  have d2 : ckDL (2 : Int64) = some () := by decide
  have b3 : A * 2 ^ (s + 1) / B + 1 < 2 ^ 63 := by
    have : A * 2 ^ (s + 1) ≤ 1000 * 2 ^ 34 := pow_bd hA (by omega)
    have : (1000 : Nat) * 2 ^ 34 + 1 < 2 ^ 63 := by decide
    omega
  rw [d1, Option.bind_some, d2, Option.bind_some, nI_1, lshl_lN (by omega) b1, pk_lDiv b1 hB0 (by omega), lN_1, show (2 : Int64) = lN 2 from rfl, pk_lDiv b3 (by decide) (by decide), lN_i, show (A * 2 ^ (s + 1) / B + 1) / 2 = dgN A B s from rfl, Option.bind_some, show (150 : Int32) = nI 150 from rfl, pk_sub (by omega), pk_shlN (nI 23 &&& 31) 23 (by decide) (sh_lt s), show (8388608 : Int32) = nI 8388608 from nlit 8388608, pk_sub hd.1, nI_add, Option.bind_some]
  rw [show (150 - s) * 2 ^ 23 + (dgN A B s - 8388608) = bqN A B s from rfl]
  have hQ : bqN A B s < 2147483648 := Nat.lt_trans (bqN_lt hd.2) (by decide)
  cases sg
  · rw [if_pos (hi.2.mpr (Or.inl rfl))]
    simp only [Bool.toNat_false, Nat.zero_mul, Nat.zero_add]
  · rw [if_neg (fun q => by
      rcases hi.2.mp q with q | q
      · cases q
      · omega), or_top hQ]
    simp only [Bool.toNat_true, Nat.one_mul]
theorem bits_ck {Q : Nat} {sg : Bool} (h : Q ≤ 2139095040) : ckN (UInt32.ofNat (sg.toNat * 2147483648 + Q)) = some () := by
  unfold ckN
  rw [if_pos]
  rw [UInt32.le_iff_toNat_le, UInt32.toNat_and, show (2147483647 : UInt32).toNat = 2 ^ 31 - 1 by decide, Nat.and_two_pow_sub_one_eq_mod, show (2139095040 : UInt32).toNat = 2139095040 by decide]
  rw [UInt32.toNat_ofNat']
  cases sg
  · simp only [Bool.toNat_false]
    omega
  · simp only [Bool.toNat_true]
    omega
theorem nan_no {N : Nat} {σ : zS} {v : UInt32} (h : FP.Core.val32 v ≠ .nan) : m_Jxf58ca_floatToIntBits_5c35a N σ v = some v.toInt32 := by
  unfold m_Jxf58ca_floatToIntBits_5c35a m_Jxf58ca_isNaN_12338
  rw [show FP.fcmp v v = some .eq from FP.Core.fcmp_self h, if_pos (by rfl), Option.bind_some, if_pos rfl]
theorem bits_eq {N : Nat} {σ : zS} {sg : Bool} {A B : Nat} (hN : 50 < N) (hA : A ≤ 1000) (hB0 : 0 < B) (hB : B ≤ 1000) : ∃ y, m_X8_bitsOfQuotient N σ (sgI sg A) (nI B) = some y ∧ ckN (FP.fdiv (FP.i2f (sgI sg A)) (FP.i2f (nI B))) = some () ∧ m_Jxf58ca_floatToIntBits_5c35a N σ (FP.fdiv (FP.i2f (sgI sg A)) (FP.i2f (nI B))) = some y := by
  by_cases c : A = 0
  · subst c
    have e0 : sgI sg 0 = 0 := by cases sg <;> decide
    have z : FP.fdiv (FP.i2f 0) (FP.i2f (nI B)) = 0 := by
      have e1 : FP.fdiv (FP.i2f 0) (FP.i2f (nI B)) = UInt32.ofNat (FP.Core.encode FP.Core.b32 (FP.Core.quotient FP.Core.b32 (FP.Core.val32 (FP.i2f 0)) (FP.Core.val32 (FP.i2f (nI B))))) := rfl
      have e2 : FP.Core.val32 (FP.i2f 0) = .fin false 0 FP.Core.b32.qmin := by decide +kernel
      have pb : ¬ B * 2 ^ (23 - B.log2) = 0 := Nat.pos_iff_ne_zero.mp (Nat.mul_pos hB0 (Nat.two_pow_pos _))
      have e3 : FP.Core.quotient FP.Core.b32 (.fin false 0 FP.Core.b32.qmin) (.fin false (B * 2 ^ (23 - B.log2)) ((B.log2 : Int) - 23)) = .fin false 0 FP.Core.b32.qmin := by
        show (if B * 2 ^ (23 - B.log2) = 0 then _ else FP.Core.roundRatio FP.Core.b32 (false != false) 0 _ _) = _
        rw [if_neg pb]
        rfl
      rw [e1, e2, show FP.Core.val32 (FP.i2f (nI B)) = _ from sgI_val (sg := false) hB0 hB, e3]
      decide +kernel
    rw [e0, z]
    refine ⟨0, ?_, by decide +kernel, by rw [nan_no (by decide +kernel)]; rfl⟩
    unfold m_X8_bitsOfQuotient
    rw [if_pos rfl]
  · obtain ⟨s, g1, g2, g3, g4, g5⟩ := bq_shift (A := A) (B := B) (by omega) hA hB0 hB
    have hd := dg_in hB0 hB g1 g3 g4
    obtain ⟨e1, e2⟩ := fl_bits (sg := sg) (by omega) hA hB0 hB g1 g2 g3 g4
    refine ⟨_, bits_X8 hN (by omega) hA hB0 hB g1 g2 g3 g4 g5, ?_, ?_⟩
    · rw [e1]
      exact bits_ck (Nat.le_trans (Nat.le_of_lt (bqN_lt hd.2)) (by decide))
    · rw [nan_no e2, e1]
      rfl
theorem op_errorBits {N : Nat} {σ : zS} {b M n len : Nat} {s : AS} {H : Nat → AS} {T : Nat → Int32} (hN : 7000 < N) (hW : WH s n H T len) (hC : CR σ b s n H T len) (hR : MR σ M s n H T len) (v : Int32) : ∃ y, m_X8_errorBits N σ b v = some y ∧ m_X9_errorBits N σ M v = some y := by
  have hws := hW.1
  have nw := hR.nw
  have st := hC.2.1
  unfold m_X8_errorBits m_X9_errorBits
  rw [hC.o.2.1, Option.bind_some, st.o.1, Option.bind_some, nw.1.o.1, Option.bind_some]
  rcases tbl_cases s hws.1 v with ⟨i, hi, rfl⟩ | hv
  · have hw := hws.2.2.2 i hi
    have tb := st.tb hi
    have ce : sR s i 22 = nI (cntG (sG s i)) := hw.2.1
    have cl := cntG_le (sG s i)
    have tl := toldN_le (sR s i) hw.1.1
    have er : ∃ (sg : Bool) (A : Nat), A ≤ 1000 ∧ errI (sR s i) = sgI sg A := by
      unfold errI
      rw [ce]
      by_cases c : cntG (sG s i) ≤ toldN (sR s i)
      · exact ⟨false, toldN (sR s i) - cntG (sG s i), by omega, pk_sub c⟩
      · refine ⟨true, cntG (sG s i) - toldN (sR s i), by omega, ?_⟩
        unfold sgI
        rw [if_pos rfl]
        apply Int32.toInt_inj.mp
        rw [pk_sub_toInt (by omega) (by omega), pk_sub_toInt (by omega) (by omega)]
        omega
    obtain ⟨sg, A, hA, er⟩ := er
    rw [st.find_in hws.1 hi, Option.bind_some, Option.elim_some, X9_isTable_in nw hws.1 hi, Option.bind_some, if_neg (by decide), tb.o.2.2.2.1, Option.bind_some, Option.bind_some, X9_exact nw hws hi, Option.bind_some]
    by_cases c0 : sR s i 22 = 0
    · rw [if_pos c0, if_pos c0]
      exact ⟨_, rfl, rfl⟩
    · have hB0 : 0 < cntG (sG s i) := by
        by_cases q : cntG (sG s i) = 0
        · rw [q] at ce
          exact absurd ce c0
        · omega
      obtain ⟨y, y1, y2, y3⟩ := bits_eq (N := N) (σ := σ) (sg := sg) (by omega) hA hB0 cl
      rw [if_neg c0, if_neg c0, tb.o.1, Option.bind_some, X5_error (by omega) tb hw.1, Option.bind_some, Option.bind_some, Option.bind_some, X9_error (by omega) nw hws hi, Option.bind_some, Option.bind_some, Option.bind_some, Option.bind_some, Option.bind_some, er, ce, y1, Option.bind_some, y2, Option.bind_some, y3, Option.bind_some]
      exact ⟨_, rfl, rfl⟩
  · rw [st.find_out hv, Option.bind_some, Option.elim_none, X9_isTable_out nw hws.1 hv, Option.bind_some, if_pos rfl]
    exact ⟨_, rfl, rfl⟩
