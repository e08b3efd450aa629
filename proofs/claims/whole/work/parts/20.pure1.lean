/-! Pure, 1: numbers, reads, loops, what is kept roughly (a row of the reference, a sketch of the class) -/
theorem nlit (n : Nat) : (OfNat.ofNat n : Int32) = nI n := rfl
theorem ibs {α β : Type} {c : Prop} [Decidable c] (a b : α) (f : α → Option β) : ((if c then some a else some b).bind f) = f (if c then a else b) := by
  by_cases h : c
  · rw [if_pos h, if_pos h]; rfl
  · rw [if_neg h, if_neg h]; rfl
theorem le_pos {a b : Nat} (h : a ≤ b) (hb : b < 2 ^ 31) : nI a ≤ nI b := nI_le h hb
theorem le_neg {a b : Nat} (h : b < a) (ha : a < 2 ^ 31) : ¬ nI a ≤ nI b := nI_ge h ha
def sS (f : Nat → Int32) : Nat → Nat → Int32
  | 0, _ => 0
  | d + 1, j => f j + sS f d (j + 1)
theorem sS_cong {f g : Nat → Int32} : ∀ (d j : Nat), (∀ i, j ≤ i → i < j + d → f i = g i) → sS f d j = sS g d j
  | 0, _, _ => rfl
  | d + 1, j, h => by
    rw [sS, sS, h j (Nat.le_refl j) (by omega), sS_cong d (j + 1) (fun i h1 h2 => h i (by omega) (by omega))]
theorem lsum {Lf : Nat → Int32 → Int32 → Option Int32} {f : Nat → Int32} {e : Nat} {lo : Nat} (hend : ∀ n v, Lf (n + 1) v (nI e) = some v) (hstep : ∀ n j v, lo ≤ j → j < e → Lf (n + 1) v (nI j) = Lf n (v + f j) (nI (j + 1))) : ∀ d j n v, lo ≤ j → j + d = e → d < n → Lf n v (nI j) = some (v + sS f d j) := by
  intro d
  induction d with
  | zero =>
    intro j n v _ hj hn
    obtain ⟨n, rfl⟩ : ∃ k, n = k + 1 := ⟨n - 1, by omega⟩
    rw [show j = e by omega, hend, sS, Int32.add_zero]
  | succ d ih =>
    intro j n v hlo hj hn
    obtain ⟨n, rfl⟩ : ∃ k, n = k + 1 := ⟨n - 1, by omega⟩
    rw [hstep n j v hlo (by omega), ih (j + 1) n _ (by omega) (by omega) (by omega), sS, Int32.add_assoc]
/-- a loop by its invariant: it ends at e, or before -/
theorem linv {S R : Type} (Lf : Nat → Nat → S → Option R) (I : Nat → S → Prop) (P : R → Prop) (e : Nat) (hend : ∀ n s, I e s → ∃ r, Lf (n + 1) e s = some r ∧ P r)
    (hstep : ∀ n j s, j < e → I j s → (∃ s', I (j + 1) s' ∧ Lf (n + 1) j s = Lf n (j + 1) s') ∨ ∃ r, Lf (n + 1) j s = some r ∧ P r) : ∀ d j n s, j + d = e → d < n → I j s → ∃ r, Lf n j s = some r ∧ P r := by
  intro d
  induction d with
  | zero =>
    intro j n s hj hn hI
    obtain ⟨n, rfl⟩ : ∃ k, n = k + 1 := ⟨n - 1, by omega⟩
    have : j = e := by omega
    subst this
    exact hend n s hI
  | succ d ih =>
    intro j n s hj hn hI
    obtain ⟨n, rfl⟩ : ∃ k, n = k + 1 := ⟨n - 1, by omega⟩
    rcases hstep n j s (by omega) hI with ⟨s', h1, h2⟩ | h
    · rw [h2]
      exact ih (j + 1) n s' (by omega) (by omega) h1
    · exact h
-- the store
theorem zup_same (σ : zS) (q : Nat) (e : zE) : zup σ q e q = some e := by simp [zup]
theorem zup_ne (σ : zS) {q a : Nat} (e : zE) (h : a ≠ q) : zup σ q e a = σ a := by simp [zup, h]
theorem aI_at {σ : zS} {q n k kd : Nat} {f : Nat → Int32} {x : Int32} (h : σ q = some (.inl (kd, n, .inl f))) (hx : x = nI k) (hk : k < n) (hn : n < 2 ^ 31) : aI kd σ q x = some (f k) := by
  subst hx
  unfold aI
  rw [h]
  dsimp only
  rw [if_pos ⟨rfl, by rw [nI_clamp (by omega)]; exact fun q => q.elim (nI_pos (by omega)) (by omega)⟩, nI_clamp (by omega)]
theorem uI_at {σ : zS} {q n k kd : Nat} {f : Nat → Int32} {x y : Int32} (h : σ q = some (.inl (kd, n, .inl f))) (hx : x = nI k) (hk : k < n) (hn : n < 2 ^ 31) : uI kd σ q x y = some (zup σ q (.inl (kd, n, .inl (upd f k y)))) := by
  subst hx
  unfold uI
  rw [h]
  dsimp only
  rw [if_pos ⟨rfl, by rw [nI_clamp (by omega)]; exact fun q => q.elim (nI_pos (by omega)) (by omega)⟩, nI_clamp (by omega)]
theorem gI_at {σ : zS} {ci q k : Nat} {fs : List Value} {x : Int32} (h : σ q = some (.inr (ci, fs))) (hx : fs[k]? = some (.int x)) : gI σ ci k q = some x := by
  unfold gI
  rw [h]
  dsimp only
  rw [if_pos rfl, hx]
theorem gA_at {σ : zS} {ci q k x : Nat} {fs : List Value} (h : σ q = some (.inr (ci, fs))) (hx : fs[k]? = some (.ref x)) : gA σ ci k q = some x := by
  unfold gA
  rw [h]
  dsimp only
  rw [if_pos rfl, hx]
theorem sI_at {σ : zS} {ci q k : Nat} {fs : List Value} {x : Int32} (h : σ q = some (.inr (ci, fs))) (hk : k < fs.length) : sI σ ci k q x = some (zup σ q (.inr (ci, fs.set k (.int x)))) := by
  unfold sI sV
  rw [h]
  dsimp only
  rw [if_pos ⟨rfl, hk⟩]
theorem isO_at {σ : zS} {ci q : Nat} {fs : List Value} (h : σ q = some (.inr (ci, fs))) : isO σ ci q = some () := by
  unfold isO
  rw [h]
  dsimp only
  rw [if_pos rfl]
theorem aL_at {σ : zS} {q n kd : Nat} {a : (Nat → Int32) ⊕ (Nat → Int64) ⊕ (Nat → UInt32) ⊕ (Nat → UInt64) ⊕ (Nat → Option Nat)} (h : σ q = some (.inl (kd, n, a))) : aL kd σ q = some (nI n) := by
  unfold aL
  rw [h]
  dsimp only
  rw [if_pos rfl]
  rfl
theorem upd_same (f : Nat → Int32) (k : Nat) (x : Int32) : upd f k x k = x := pk_us
theorem upd_ne (f : Nat → Int32) {k j : Nat} (x : Int32) (h : j ≠ k) : upd f k x j = f j := pk_un h
/-- a row of the reference: 23 numbers from o on, in the array at A -/
def Rw (σ : zS) (A o : Nat) (r : Nat → Int32) : Prop := ∃ (n : Nat) (F : Nat → Int32), σ A = some (.inl (1, n, .inl F)) ∧ o + 23 ≤ n ∧ n < 100000 ∧ ∀ j, j < 23 → F (o + j) = r j
theorem Rw.rd {σ : zS} {A o j : Nat} {r : Nat → Int32} {x : Int32} (h : Rw σ A o r) (hj : j < 23) (hx : x = nI (o + j)) : aI 1 σ A x = some (r j) := by
  obtain ⟨n, F, h1, h2, h3, h4⟩ := h
  rw [aI_at h1 hx (by omega) (by omega), h4 j hj]
/-- a sketch of the class, at q, with its rows behind it -/
def Sk (σ : zS) (q : Nat) (r : Nat → Int32) : Prop := ∃ hs rg : Nat → Int32, σ q = some (.inr (3, [.int (r 0), .int (r 1), .int (r 2), .int (r 4), .int (r 5), .ref (q + 1), .ref (q + 2)])) ∧ σ (q + 1) = some (.inl (1, 8, .inl hs)) ∧ σ (q + 2) = some (.inl (1, 8, .inl rg)) ∧ (∀ j, j < 8 → nI j < r 5 → hs j = r (6 + j)) ∧ ∀ j, j < 8 → rg j = r (14 + j)
def fcnt (r : Nat → Int32) : Int32 := sS (fun i => if r (14 + i) ≤ 0 then 0 else 1) 8 0
theorem X9_filled {N : Nat} {σ : zS} {A o : Nat} {r : Nat → Int32} (hN : 8 < N) (h : Rw σ A o r) : m_X9_filled N σ A (nI o) = some (fcnt r) := by
  unfold m_X9_filled
  rw [show (0 : Int32) = nI 0 from rfl]
  have key := lsum (Lf := fun n v j => m_X9_filled_L4 N n σ A (nI o) v j) (f := fun i => if r (14 + i) ≤ 0 then 0 else 1) (e := 8) (lo := 0)
    (fun n v => by
      show m_X9_filled_L4 N (n + 1) σ A (nI o) v (nI 8) = _
      rw [m_X9_filled_L4, if_pos (by decide)])
    (fun n j v _ hj => by
      show m_X9_filled_L4 N (n + 1) σ A (nI o) v (nI j) = m_X9_filled_L4 N n σ A (nI o) _ (nI (j + 1))
      rw [m_X9_filled_L4, if_neg (show ¬ (8 : Int32) ≤ nI j from le_neg hj (by decide)), h.rd (j := 14 + j) (by omega) (by simp only [nlit, nI_add]; congr 1; omega), Option.bind_some, ibs, Option.bind_some, Option.bind_some, nI_1])
    8 0 N (nI 0) (Nat.le_refl 0) rfl hN
  rw [key, Option.bind_some]
  show some ((0 : Int32) + _) = _
  rw [Int32.zero_add]
  rfl
theorem X3_filled {N : Nat} {σ : zS} {q : Nat} {r : Nat → Int32} (hN : 8 < N) (h : Sk σ q r) : m_X3_filledRegisters N σ q = some (fcnt r) := by
  obtain ⟨hs, rg, h1, h2, h3, h4, h5⟩ := h
  unfold m_X3_filledRegisters
  rw [gA_at h1 rfl, Option.bind_some, aL_at h3, Option.bind_some, show (0 : Int32) = nI 0 from rfl]
  have key := lsum (Lf := fun n v j => m_X3_filledRegisters_L13 N n σ v (q + 2) (nI 8) j) (f := fun i => if r (14 + i) ≤ 0 then 0 else 1) (e := 8) (lo := 0)
    (fun n v => by
      show m_X3_filledRegisters_L13 N (n + 1) σ v (q + 2) (nI 8) (nI 8) = _
      rw [m_X3_filledRegisters_L13, if_pos (by decide)])
    (fun n j v _ hj => by
      show m_X3_filledRegisters_L13 N (n + 1) σ v (q + 2) (nI 8) (nI j) = m_X3_filledRegisters_L13 N n σ _ (q + 2) (nI 8) (nI (j + 1))
      rw [m_X3_filledRegisters_L13, if_neg (le_neg (a := 8) hj (by decide)), aI_at h3 rfl hj (by decide), Option.bind_some, h5 j hj, Option.bind_some, ibs, Option.bind_some, nI_1]
      congr 1
      split
      · rw [Int32.add_zero]
      · rfl)
    8 0 N (nI 0) (Nat.le_refl 0) rfl hN
  rw [key, Option.bind_some]
  show some ((0 : Int32) + _) = _
  rw [Int32.zero_add]
  rfl
def nS (f : Nat → Nat) : Nat → Nat → Nat
  | 0, _ => 0
  | d + 1, j => f j + nS f d (j + 1)
theorem sS_nI (f : Nat → Nat) : ∀ d j, sS (fun i => nI (f i)) d j = nI (nS f d j)
  | 0, _ => rfl
  | d + 1, j => by rw [sS, nS, sS_nI f d (j + 1), nI_add]
theorem nS_le {f : Nat → Nat} {c : Nat} : ∀ d j, (∀ i, j ≤ i → i < j + d → f i ≤ c) → nS f d j ≤ d * c
  | 0, _, _ => by simp [nS]
  | d + 1, j, h => by
    have h1 := h j (Nat.le_refl j) (by omega)
    have h2 := nS_le d (j + 1) (fun i a b => h i (by omega) (by omega))
    rw [nS, Nat.succ_mul]
    omega
theorem nS_ge {f : Nat → Nat} {c : Nat} : ∀ d j, (∀ i, j ≤ i → i < j + d → c ≤ f i) → d * c ≤ nS f d j
  | 0, _, _ => by simp [nS]
  | d + 1, j, h => by
    have h1 := h j (Nat.le_refl j) (by omega)
    have h2 := nS_ge d (j + 1) (fun i a b => h i (by omega) (by omega))
    rw [nS, Nat.succ_mul]
    omega
def fcN (r : Nat → Int32) : Nat := nS (fun i => if r (14 + i) ≤ 0 then 0 else 1) 8 0
theorem fcnt_eq (r : Nat → Int32) : fcnt r = nI (fcN r) := by
  unfold fcnt fcN
  rw [← sS_nI]
  refine sS_cong 8 0 (fun i _ _ => ?_)
  by_cases h : r (14 + i) ≤ 0
  · simp only [if_pos h]; rfl
  · simp only [if_neg h]; rfl
theorem fcN_le (r : Nat → Int32) : fcN r ≤ 8 := by
  have := nS_le (f := fun i => if r (14 + i) ≤ 0 then 0 else 1) (c := 1) 8 0 (fun i _ _ => by by_cases h : r (14 + i) ≤ 0 <;> simp [h])
  unfold fcN
  omega
-- the sum of thousandths
def harN (n d : Nat) : Nat := nS (fun k => 1000 * n / k) (n - d) (d + 1)
theorem harN_lt {n d : Nat} (hn : n ≤ 32) : harN n d < 2000000 := by
  have h := nS_le (f := fun k => 1000 * n / k) (c := 32000) (n - d) (d + 1) (fun i _ _ => by
    have := Nat.div_le_self (1000 * n) i
    omega)
  have : (n - d) * 32000 ≤ 32 * 32000 := Nat.mul_le_mul_right _ (by omega)
  unfold harN
  omega
theorem hterm {n k : Nat} (hn : n ≤ 32) (hk : 1 ≤ k) (hk2 : k < 2 ^ 31) : (1000 * nI n) / nI k = nI (1000 * n / k) := by
  rw [show (1000 : Int32) = nI 1000 from rfl, pk_mul, pk_div (by omega) (by omega) hk2]
theorem ckD_ok {y : Int32} (h : y ≠ 0) : ckD y = some () := by unfold ckD; rw [if_neg h]
theorem X9_harmonic {N : Nat} {σ : zS} {n d : Nat} (hd : d ≤ n) (hn : n ≤ 32) (hN : 40 < N) : m_X9_harmonic N σ (nI d) (nI n) = some (nI (harN n d / 1000)) := by
  unfold m_X9_harmonic
  rw [Option.bind_some, nI_1, show (0 : Int32) = nI 0 from rfl]
  have key := lsum (Lf := fun m v j => m_X9_harmonic_L6 N m σ (nI n) v j) (f := fun k => nI (1000 * n / k)) (e := n + 1) (lo := 1)
    (fun m v => by
      show m_X9_harmonic_L6 N (m + 1) σ (nI n) v (nI (n + 1)) = _
      rw [m_X9_harmonic_L6, if_pos (nI_lt (by omega) (by omega))])
    (fun m j v h1 hj => by
      show m_X9_harmonic_L6 N (m + 1) σ (nI n) v (nI j) = m_X9_harmonic_L6 N m σ (nI n) _ (nI (j + 1))
      rw [m_X9_harmonic_L6, if_neg (nI_nlt (by omega) (by omega)), ckD_ok (nI_ne0 (by omega) (by omega)), Option.bind_some, Option.bind_some, Option.bind_some, nI_1, hterm hn h1 (by omega)])
    (n - d) (d + 1) N (nI 0) (by omega) (by omega) (by omega)
  rw [key, Option.bind_some, sS_nI]
  show some ((0 + nI (harN n d)) / 1000) = _
  rw [Int32.zero_add, show (1000 : Int32) = nI 1000 from rfl, pk_div (by have := harN_lt (d := d) hn; omega) (by decide) (by decide)]
theorem nS_split (f : Nat → Nat) : ∀ a b j, nS f (a + b) j = nS f a j + nS f b (j + a)
  | 0, b, j => by simp [nS]
  | a + 1, b, j => by
    rw [show a + 1 + b = a + b + 1 by omega, nS, nS, nS_split f a b (j + 1), show j + 1 + a = j + (a + 1) by omega]
    omega
theorem nS_zero {f : Nat → Nat} : ∀ d j, (∀ i, j ≤ i → i < j + d → f i = 0) → nS f d j = 0
  | 0, _, _ => rfl
  | d + 1, j, h => by rw [nS, h j (Nat.le_refl j) (by omega), nS_zero d (j + 1) (fun i a b => h i (by omega) (by omega))]
theorem nS_cong {f g : Nat → Nat} : ∀ (d j : Nat), (∀ i, j ≤ i → i < j + d → f i = g i) → nS f d j = nS g d j
  | 0, _, _ => rfl
  | d + 1, j, h => by rw [nS, nS, h j (Nat.le_refl j) (by omega), nS_cong d (j + 1) (fun i h1 h2 => h i (by omega) (by omega))]
theorem X8_spread {N : Nat} {σ : zS} {n d : Nat} (hd : d ≤ n) (hn : n ≤ 32) (hN : 40 < N) : m_X8_spread N σ (nI n) (nI d) = some (nI (harN n d / 1000)) := by
  unfold m_X8_spread
  rw [show (0 : Int32) = nI 0 from rfl, show (1 : Int32) = nI 1 from rfl]
  have key := lsum (Lf := fun m v j => m_X8_spread_L4 N m σ (nI n) (nI d) v j) (f := fun k => nI (if k ≤ d then 0 else 1000 * n / k)) (e := n + 1) (lo := 1)
    (fun m v => by
      show m_X8_spread_L4 N (m + 1) σ (nI n) (nI d) v (nI (n + 1)) = _
      rw [m_X8_spread_L4, if_pos (nI_lt (by omega) (by omega))])
    (fun m j v h1 hj => by
      show m_X8_spread_L4 N (m + 1) σ (nI n) (nI d) v (nI j) = m_X8_spread_L4 N m σ (nI n) (nI d) _ (nI (j + 1))
      rw [m_X8_spread_L4, if_neg (nI_nlt (by omega) (by omega))]
      by_cases h : j ≤ d
      · rw [if_pos (nI_le h (by omega)), Option.bind_some, Option.bind_some, nI_1, if_pos h, show v + nI 0 = v from Int32.add_zero v]
      · rw [if_neg (nI_ge (by omega) (by omega)), ckD_ok (nI_ne0 (by omega) (by omega)), Option.bind_some, Option.bind_some, Option.bind_some, Option.bind_some, nI_1, if_neg h, show nI n * 1000 / nI j = nI (1000 * n / j) by rw [Int32.mul_comm, hterm hn h1 (by omega)]])
    n 1 N (nI 0) (by omega) (by omega) (by omega)
  rw [key, Option.bind_some, sS_nI]
  have e : nS (fun k => if k ≤ d then 0 else 1000 * n / k) n 1 = harN n d := by
    rw [show n = d + (n - d) by omega, nS_split, nS_zero d 1 (fun i _ h => if_pos (by omega)), Nat.zero_add, show d + (n - d) = n by omega, show 1 + d = d + 1 by omega]
    exact nS_cong _ _ (fun i h1 h2 => if_neg (by omega))
  rw [e]
  show some ((0 + nI (harN n d)) / 1000) = _
  rw [Int32.zero_add, show (1000 : Int32) = nI 1000 from rfl, pk_div (by have := harN_lt (d := d) hn; omega) (by decide) (by decide)]
-- lit bits
def bN (x : Int32) : Nat := pcN 32 x.toBitVec.toNat
theorem sS_pc (X : Nat) : ∀ d j, sS (fun i => nI (X / 2 ^ i % 2)) d j = nI (pcN d (X / 2 ^ j))
  | 0, _ => rfl
  | d + 1, j => by rw [sS, sS_pc X d (j + 1), pcN, nI_add, Nat.pow_succ, ← Nat.div_div_eq_div_mul]
theorem X9_lit {N : Nat} {σ : zS} {x : Int32} (hN : 40 < N) : m_X9_lit N σ x = some (nI (bN x)) := by
  unfold m_X9_lit
  rw [show (0 : Int32) = nI 0 from rfl]
  have key := lsum (Lf := fun m v j => m_X9_lit_L4 N m σ x v j) (f := fun i => nI (x.toBitVec.toNat / 2 ^ i % 2)) (e := 32) (lo := 0)
    (fun m v => by
      show m_X9_lit_L4 N (m + 1) σ x v (nI 32) = _
      rw [m_X9_lit_L4, if_pos (by decide)])
    (fun m j v h1 hj => by
      show m_X9_lit_L4 N (m + 1) σ x v (nI j) = m_X9_lit_L4 N m σ x _ (nI (j + 1))
      rw [m_X9_lit_L4, if_neg (show ¬ (32 : Int32) ≤ nI j from le_neg hj (by decide)), Option.bind_some, Option.bind_some, nI_1, lit_bit x hj])
    32 0 N (nI 0) (by omega) (by omega) (by omega)
  rw [key, Option.bind_some, sS_pc]
  show some (0 + nI (pcN 32 (x.toBitVec.toNat / 2 ^ 0))) = _
  rw [Int32.zero_add, Nat.pow_zero, Nat.div_one]
  rfl
-- what a row is
def rW (r : Nat → Int32) : Prop := (r 0 = 0 ∨ r 0 = 1 ∨ r 0 = 2) ∧ (∃ s : Nat, s ≤ 9 ∧ r 1 = nI s) ∧ (∃ a : Nat, a ≤ 1000000000 ∧ r 2 = nI a) ∧ (∃ k : Nat, k ≤ 8 ∧ r 5 = nI k) ∧ (∀ j, j < 8 → ∃ h : Nat, h < 65536 ∧ r (6 + j) = nI h) ∧ ∀ j, j < 8 → ∃ g : Nat, g ≤ 14 ∧ r (14 + j) = nI g
def rkN (r : Nat → Int32) : Nat := nS (fun i => 2 ^ (14 - (r (14 + i)).toNatClampNeg)) 8 0
theorem rkN_in {r : Nat → Int32} : 8 ≤ rkN r ∧ rkN r ≤ 131072 := by
  have h1 := nS_ge (f := fun i => 2 ^ (14 - (r (14 + i)).toNatClampNeg)) (c := 1) 8 0 (fun i _ _ => Nat.two_pow_pos _)
  have h2 := nS_le (f := fun i => 2 ^ (14 - (r (14 + i)).toNatClampNeg)) (c := 16384) 8 0 (fun i _ _ => Nat.pow_le_pow_right (by decide) (Nat.sub_le 14 _))
  unfold rkN
  omega
theorem rterm {r : Nat → Int32} (h : rW r) {j : Nat} (hj : j < 8) : (1 : Int32) <<< ((14 - r (14 + j)) &&& 31) = nI (2 ^ (14 - (r (14 + j)).toNatClampNeg)) := by
  obtain ⟨g, hg, e⟩ := h.2.2.2.2.2 j hj
  rw [e, nI_clamp (by omega), show (14 : Int32) = nI 14 from rfl, pk_sub hg, show (1 : Int32) = nI 1 from rfl, pk_shlN _ (14 - g) (s_l _ (by omega)) (by have := Nat.pow_le_pow_right (n := 2) (by decide) (Nat.sub_le 14 g); omega), Nat.one_mul]
theorem X9_ranks {N : Nat} {σ : zS} {A o : Nat} {r : Nat → Int32} (hN : 40 < N) (h : Rw σ A o r) (hr : rW r) : m_X9_byRegisters_L25 N N σ A (nI o) (nI 0) (nI 0) = some (nI (rkN r)) := by
  have key := lsum (Lf := fun m v j => m_X9_byRegisters_L25 N m σ A (nI o) v j) (f := fun i => nI (2 ^ (14 - (r (14 + i)).toNatClampNeg))) (e := 8) (lo := 0)
    (fun m v => by
      show m_X9_byRegisters_L25 N (m + 1) σ A (nI o) v (nI 8) = _
      rw [m_X9_byRegisters_L25, if_pos (by decide)])
    (fun m j v h1 hj => by
      show m_X9_byRegisters_L25 N (m + 1) σ A (nI o) v (nI j) = m_X9_byRegisters_L25 N m σ A (nI o) _ (nI (j + 1))
      rw [m_X9_byRegisters_L25, if_neg (show ¬ (8 : Int32) ≤ nI j from le_neg hj (by decide)), h.rd (j := 14 + j) (by omega) (by simp only [nlit, nI_add]; congr 1; omega), Option.bind_some, Option.bind_some, Option.bind_some, nI_1, rterm hr hj])
    8 0 N (nI 0) (by omega) (by omega) (by omega)
  rw [key, sS_nI]
  show some (0 + nI (rkN r)) = _
  rw [Int32.zero_add]
theorem X3_ranks {N : Nat} {σ : zS} {q : Nat} {r rg : Nat → Int32} (hN : 40 < N) (h3 : σ (q + 2) = some (.inl (1, 8, .inl rg))) (h5 : ∀ j, j < 8 → rg j = r (14 + j)) (hr : rW r) : m_X3_roughByRanks_L13 N N σ (nI 0) (q + 2) (nI 8) (nI 0) = some (nI (rkN r)) := by
  have key := lsum (Lf := fun m v j => m_X3_roughByRanks_L13 N m σ v (q + 2) (nI 8) j) (f := fun i => nI (2 ^ (14 - (r (14 + i)).toNatClampNeg))) (e := 8) (lo := 0)
    (fun m v => by
      show m_X3_roughByRanks_L13 N (m + 1) σ v (q + 2) (nI 8) (nI 8) = _
      rw [m_X3_roughByRanks_L13, if_pos (by decide)])
    (fun m j v h1 hj => by
      show m_X3_roughByRanks_L13 N (m + 1) σ v (q + 2) (nI 8) (nI j) = m_X3_roughByRanks_L13 N m σ _ (q + 2) (nI 8) (nI (j + 1))
      rw [m_X3_roughByRanks_L13, if_neg (le_neg hj (by decide)), aI_at h3 rfl hj (by decide), Option.bind_some, h5 j hj, Option.bind_some, Option.bind_some, nI_1, rterm hr hj])
    8 0 N (nI 0) (by omega) (by omega) (by omega)
  rw [key, sS_nI]
  show some (0 + nI (rkN r)) = _
  rw [Int32.zero_add]
-- rough, low, high, told
def ktN (r : Nat → Int32) : Nat := (r 5).toNatClampNeg
def roughN (r : Nat → Int32) : Nat := if r 0 = 0 then harN 32 (32 - bN (r 4)) / 1000 else if r 0 = 1 then (if ktN r = 8 then 458752 / ((r 13).toNatClampNeg + 1) else ktN r) else if fcN r = 8 then 655360 / rkN r else harN 8 (8 - fcN r) / 1000
def lowN (r : Nat → Int32) : Nat := if r 0 = 0 then bN (r 4) else if r 0 = 1 then ktN r else fcN r
def highN (r : Nat → Int32) : Nat := min (r 2).toNatClampNeg 1000
def toldN (r : Nat → Int32) : Nat := max (lowN r) (min (roughN r) (highN r))
theorem rW.kt {r : Nat → Int32} (h : rW r) : ktN r ≤ 8 ∧ r 5 = nI (ktN r) := by
  obtain ⟨k, hk, e⟩ := h.2.2.2.1
  unfold ktN
  rw [e, nI_clamp (by omega)]
  exact ⟨hk, rfl⟩
theorem rW.ad {r : Nat → Int32} (h : rW r) : (r 2).toNatClampNeg ≤ 1000000000 ∧ r 2 = nI (r 2).toNatClampNeg := by
  obtain ⟨k, hk, e⟩ := h.2.2.1
  rw [e, nI_clamp (by omega)]
  exact ⟨hk, rfl⟩
theorem rW.hs {r : Nat → Int32} (h : rW r) {j : Nat} (hj : j < 8) : (r (6 + j)).toNatClampNeg < 65536 ∧ r (6 + j) = nI (r (6 + j)).toNatClampNeg := by
  obtain ⟨k, hk, e⟩ := h.2.2.2.2.1 j hj
  rw [e, nI_clamp (by omega)]
  exact ⟨hk, rfl⟩
theorem bN_le (x : Int32) : bN x ≤ 32 := pcN_le 32 _
theorem lowN_le (r : Nat → Int32) (h : rW r) : lowN r ≤ 32 := by
  unfold lowN
  have h1 := bN_le (r 4)
  have h2 := h.kt.1
  have h3 := fcN_le r
  split
  · exact h1
  · split <;> omega
theorem k3_0 {x : Int32} (h : x = 0 ∨ x = 1 ∨ x = 2) (h0 : ¬ x = 0) (h1 : ¬ x = 1) : x = 2 := (h.resolve_left h0).resolve_left h1
theorem X9_low {N : Nat} {σ : zS} {A o : Nat} {r : Nat → Int32} (hN : 50 < N) (h : Rw σ A o r) (hr : rW r) : m_X9_low N σ A (nI o) = some (nI (lowN r)) := by
  unfold m_X9_low lowN
  rw [h.rd (j := 0) (by omega) (by simp only [nlit, nI_add]), Option.bind_some]
  by_cases h0 : r 0 = 0
  · rw [if_pos h0, if_pos h0, h.rd (j := 4) (by omega) (by simp only [nlit, nI_add]), Option.bind_some, X9_lit (by omega), Option.bind_some]
  · rw [if_neg h0, if_neg h0]
    by_cases h1 : r 0 = 1
    · rw [if_pos h1, if_pos h1, h.rd (j := 5) (by omega) (by simp only [nlit, nI_add]), Option.bind_some, ← hr.kt.2]
    · rw [if_neg h1, if_neg h1, X9_filled (by omega) h, Option.bind_some, fcnt_eq]
theorem X3_low {N : Nat} {σ : zS} {q : Nat} {r : Nat → Int32} (hN : 50 < N) (h : Sk σ q r) (hr : rW r) : m_X3_low N σ q = some (nI (lowN r)) := by
  have hf := X3_filled (N := N) (by omega) h
  obtain ⟨hs, rg, h1, h2, h3, h4, h5⟩ := h
  unfold m_X3_low lowN
  rw [gI_at h1 rfl, Option.bind_some]
  by_cases h0 : r 0 = 0
  · rw [if_pos h0, if_pos h0, gI_at h1 rfl, Option.bind_some, bitCount_eq, Option.bind_some]
    rfl
  · rw [if_neg h0, if_neg h0, Option.bind_some]
    by_cases h6 : r 0 = 1
    · rw [if_pos h6, if_pos h6, gI_at h1 rfl, Option.bind_some, ← hr.kt.2]
    · rw [if_neg h6, if_neg h6, isO_at h1, Option.bind_some, hf, Option.bind_some, fcnt_eq]
theorem X9_high {N : Nat} {σ : zS} {A o : Nat} {r : Nat → Int32} (h : Rw σ A o r) (hr : rW r) : m_X9_high N σ A (nI o) = some (nI (highN r)) := by
  unfold m_X9_high highN
  have e := hr.ad
  rw [h.rd (j := 2) (by omega) (by simp only [nlit, nI_add]), Option.bind_some, e.2, nI_clamp (by omega), show (1000 : Int32) = nI 1000 from rfl]
  by_cases h0 : 1000 ≤ (r 2).toNatClampNeg
  · rw [if_pos (nI_le h0 (by omega)), Nat.min_eq_right h0]
  · rw [if_neg (nI_ge (by omega) (by decide)), Nat.min_eq_left (by omega), Option.bind_some]
theorem imin_nI {a b : Nat} (ha : a < 2 ^ 31) (hb : b < 2 ^ 31) : imin (nI a) (nI b) = nI (min a b) := by
  unfold imin
  by_cases h : b < a
  · rw [if_pos (nI_lt h ha), Nat.min_eq_right (by omega)]
  · rw [if_neg (nI_nlt (by omega) hb), Nat.min_eq_left (by omega)]
theorem imax_nI {a b : Nat} (ha : a < 2 ^ 31) (hb : b < 2 ^ 31) : imax (nI a) (nI b) = nI (max a b) := by
  unfold imax
  by_cases h : a < b
  · rw [if_pos (nI_lt h hb), Nat.max_eq_right (by omega)]
  · rw [if_neg (nI_nlt (by omega) ha), Nat.max_eq_left (by omega)]
theorem X3_high {N : Nat} {σ : zS} {q : Nat} {r : Nat → Int32} (h : Sk σ q r) (hr : rW r) : m_X3_high N σ q = some (nI (highN r)) := by
  obtain ⟨hs, rg, h1, h2, h3, h4, h5⟩ := h
  unfold m_X3_high highN
  have e := hr.ad
  rw [gI_at h1 rfl, Option.bind_some, e.2, show (1000 : Int32) = nI 1000 from rfl, imin_nI (by omega) (by decide), nI_clamp (by omega)]
theorem roughN_lt (r : Nat → Int32) (h : rW r) : roughN r < 2000000 := by
  unfold roughN
  have h1 := harN_lt (n := 32) (d := 32 - bN (r 4)) (by omega)
  have h2 := harN_lt (n := 8) (d := 8 - fcN r) (by omega)
  have h3 := h.kt.1
  have h4 := Nat.div_le_self 458752 ((r 13).toNatClampNeg + 1)
  have h5 := Nat.div_le_self 655360 (rkN r)
  split
  · omega
  · split
    · split <;> omega
    · split <;> omega
theorem X9_rough {N : Nat} {σ : zS} {A o : Nat} {r : Nat → Int32} (hN : 50 < N) (h : Rw σ A o r) (hr : rW r) : m_X9_rough N σ A (nI o) = some (nI (roughN r)) := by
  unfold m_X9_rough roughN
  have hk := hr.kt
  rw [h.rd (j := 0) (by omega) (by simp only [nlit, nI_add]), Option.bind_some]
  by_cases h0 : r 0 = 0
  · have hb := bN_le (r 4)
    rw [if_pos h0, if_pos h0, h.rd (j := 4) (by omega) (by simp only [nlit, nI_add]), Option.bind_some, X9_lit (by omega), Option.bind_some, show (32 : Int32) = nI 32 from rfl, pk_sub hb, X9_harmonic (by omega) (by omega) (by omega), Option.bind_some]
  · rw [if_neg h0, if_neg h0]
    by_cases h1 : r 0 = 1
    · rw [if_pos h1, if_pos h1, h.rd (j := 5) (by omega) (by simp only [nlit, nI_add]), Option.bind_some]
      by_cases h2 : ktN r = 8
      · have h13 : (r 13).toNatClampNeg < 65536 ∧ r 13 = nI (r 13).toNatClampNeg := hr.hs (j := 7) (by omega)
        rw [if_pos h2, if_pos (by rw [hk.2, h2]; decide), h.rd (j := 13) (by omega) (by simp only [nlit, nI_add]; show nI (o + 6 + 8) - nI 1 = _; rw [pk_sub (by omega)]; congr 1), Option.bind_some, h13.2, nI_1, ckD_ok (nI_ne0 (by omega) (by omega)), Option.bind_some, nI_clamp (by omega), show (458752 : Int32) = nI 458752 from rfl, pk_div (by decide) (by omega) (by omega)]
      · rw [if_neg h2, if_neg (by rw [hk.2]; exact le_neg (a := 8) (by omega) (by decide)), Option.bind_some, ← hk.2]
    · rw [if_neg h1, if_neg h1]
      unfold m_X9_byRegisters
      have hf := fcN_le r
      have hk2 := @rkN_in r
      rw [X9_filled (by omega) h, Option.bind_some, Option.bind_some, fcnt_eq, show (8 : Int32) = nI 8 from rfl, pk_sub hf]
      by_cases h2 : fcN r = 8
      · rw [if_pos h2, if_pos (by rw [h2]; decide), show (0 : Int32) = nI 0 from rfl, X9_ranks (by omega) h hr, Option.bind_some, ckD_ok (nI_ne0 (by omega) (by omega)), Option.bind_some, show (655360 : Int32) = nI 655360 from rfl, pk_div (by decide) (by omega) (by omega), Option.bind_some]
      · rw [if_neg h2, if_neg (nI_nle (by omega) (by omega)), X9_harmonic (by omega) (by omega) (by omega), Option.bind_some, Option.bind_some]
theorem X3_rough {N : Nat} {σ : zS} {q : Nat} {r : Nat → Int32} (hN : 50 < N) (h : Sk σ q r) (hr : rW r) : m_X3_rough N σ q = some (nI (roughN r)) := by
  have hfil := X3_filled (N := N) (by omega) h
  obtain ⟨hs, rg, h1, h2, h3, h4, h5⟩ := h
  have hk := hr.kt
  unfold m_X3_rough roughN
  rw [gI_at h1 rfl, Option.bind_some]
  by_cases h0 : r 0 = 0
  · have hb := bN_le (r 4)
    rw [if_pos h0, if_pos h0, gI_at h1 rfl, Option.bind_some, bitCount_eq, Option.bind_some, show (32 : Int32) = nI 32 from rfl, show pcN 32 (r 4).toBitVec.toNat = bN (r 4) from rfl, pk_sub hb, X8_spread (by omega) (by omega) (by omega), Option.bind_some]
  · rw [if_neg h0, if_neg h0, Option.bind_some]
    by_cases h6 : r 0 = 1
    · rw [if_pos h6, if_pos h6, isO_at h1, Option.bind_some]
      unfold m_X3_roughByHashes
      obtain ⟨x, hx⟩ : ∃ x, x = hs 7 := ⟨_, rfl⟩
      rw [gA_at h1 rfl, Option.bind_some, aI_at h2 (show (7 : Int32) = nI 7 from rfl) (by decide) (by decide), Option.bind_some, Option.bind_some, gI_at h1 rfl, Option.bind_some]
      by_cases h7 : ktN r = 8
      · have h13 : (r 13).toNatClampNeg < 65536 ∧ r 13 = nI (r 13).toNatClampNeg := hr.hs (j := 7) (by omega)
        have e : hs 7 = nI (r 13).toNatClampNeg := by rw [h4 7 (by omega) (by rw [hk.2, h7]; decide), ← h13.2]
        rw [if_pos h7, if_neg (by rw [hk.2, h7]; decide), e, nI_1, if_pos (by rw [show (0 : Int32) = nI 0 from rfl]; exact nI_lt (by omega) (by omega)), ckD_ok (nI_ne0 (by omega) (by omega)), Option.bind_some, show (458752 : Int32) = nI 458752 from rfl, pk_div (by decide) (by omega) (by omega), Option.bind_some]
      · rw [if_neg h7, if_pos (by rw [hk.2]; exact nI_lt (b := 8) (by omega) (by decide)), Option.bind_some, Option.bind_some, ← hk.2]
    · have hf := fcN_le r
      have hk2 := @rkN_in r
      rw [if_neg h6, if_neg h6, isO_at h1, Option.bind_some, hfil, Option.bind_some, Option.bind_some, fcnt_eq, show (8 : Int32) = nI 8 from rfl, pk_sub hf]
      by_cases h7 : fcN r = 8
      · rw [if_pos h7, if_pos (by rw [h7]; decide), Option.bind_some]
        unfold m_X3_roughByRanks
        rw [gA_at h1 rfl, Option.bind_some, aL_at h3, Option.bind_some, show (0 : Int32) = nI 0 from rfl, X3_ranks (by omega) h3 h5 hr, Option.bind_some, if_neg (show ¬ nI (rkN r) ≤ nI 0 from nI_nle (by omega) (by omega)), ckD_ok (nI_ne0 (by omega) (by omega)), Option.bind_some, show (655360 : Int32) = nI 655360 from rfl, pk_div (by decide) (by omega) (by omega), Option.bind_some]
      · rw [if_neg h7, if_neg (nI_nle (by omega) (by omega)), X8_spread (by omega) (by omega) (by omega), Option.bind_some]
theorem X3_told {N : Nat} {σ : zS} {q : Nat} {r : Nat → Int32} (hN : 50 < N) (h : Sk σ q r) (hr : rW r) : m_X3_told N σ q = some (nI (toldN r)) := by
  have e1 := X3_low hN h hr
  have e2 := X3_rough hN h hr
  have e3 := X3_high (N := N) h hr
  have l1 := lowN_le r hr
  have l2 := roughN_lt r hr
  have l3 : highN r ≤ 1000 := Nat.min_le_right _ _
  obtain ⟨hs, rg, h1, h2, h3, h4, h5⟩ := h
  unfold m_X3_told
  rw [isO_at h1, Option.bind_some, e1, Option.bind_some, Option.bind_some, e2, Option.bind_some, Option.bind_some, e3, Option.bind_some, imin_nI (by omega) (by omega), imax_nI (by omega) (by omega)]
  rfl
theorem X9_told {N : Nat} {σ : zS} {A o : Nat} {r : Nat → Int32} (hN : 50 < N) (h : Rw σ A o r) (hr : rW r) (hlh : lowN r ≤ highN r) : m_X9_told N σ A (nI o) = some (nI (toldN r)) := by
  have l1 := lowN_le r hr
  have l2 := roughN_lt r hr
  have l3 : highN r ≤ 1000 := Nat.min_le_right _ _
  unfold m_X9_told toldN
  rw [X9_rough hN h hr, Option.bind_some, X9_low hN h hr, Option.bind_some, X9_high h hr, Option.bind_some, ibs]
  by_cases h1 : lowN r ≤ roughN r
  · rw [if_pos (nI_le h1 (by omega))]
    by_cases h2 : roughN r ≤ highN r
    · rw [if_pos (nI_le h2 (by omega)), Nat.min_eq_left h2, Nat.max_eq_right h1]
    · rw [if_neg (nI_ge (by omega) (by omega)), Nat.min_eq_right (by omega), Nat.max_eq_right hlh]
  · rw [if_neg (nI_ge (by omega) (by omega)), if_pos (nI_le hlh (by omega)), Nat.min_eq_left (by omega), Nat.max_eq_left (by omega)]
