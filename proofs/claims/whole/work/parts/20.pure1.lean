/-! Pure, 1: numbers, reads, loops, what is kept roughly (a row of the reference, a sketch of the class) -/
theorem nlit (n : Nat) : (OfNat.ofNat n : Int32) = nI n := rfl
theorem ibs {α β : Type} {c : Prop} [Decidable c] (a b : α) (f : α → Option β) : ((if c then some a else some b).bind f) = f (if c then a else b) := by
  by_cases h : c
  · rw [if_pos h, if_pos h]; rfl
  · rw [if_neg h, if_neg h]; rfl
theorem le_pos {a b : Nat} (h : a ≤ b) (hb : b < 2 ^ 31) : nI a ≤ nI b := nI_le h hb
theorem le_neg {a b : Nat} (h : b < a) (ha : a < 2 ^ 31) : ¬ nI a ≤ nI b := nI_ge h ha
def sS (f : Nat → Int32) : Nat → Nat → Int32
  | 0, _ => 0
  | d + 1, j => f j + sS f d (j + 1)
theorem sS_cong {f g : Nat → Int32} : ∀ (d j : Nat), (∀ i, j ≤ i → i < j + d → f i = g i) → sS f d j = sS g d j
  | 0, _, _ => rfl
  | d + 1, j, h => by
    rw [sS, sS, h j (Nat.le_refl j) (by omega), sS_cong d (j + 1) (fun i h1 h2 => h i (by omega) (by omega))]
theorem lsum {Lf : Nat → Int32 → Int32 → Option Int32} {f : Nat → Int32} {e : Nat} (hend : ∀ n v, Lf (n + 1) v (nI e) = some v) (hstep : ∀ n j v, j < e → Lf (n + 1) v (nI j) = Lf n (v + f j) (nI (j + 1))) : ∀ d j n v, j + d = e → d < n → Lf n v (nI j) = some (v + sS f d j) := by
  intro d
  induction d with
  | zero =>
    intro j n v hj hn
    obtain ⟨n, rfl⟩ : ∃ k, n = k + 1 := ⟨n - 1, by omega⟩
    rw [show j = e by omega, hend, sS, Int32.add_zero]
  | succ d ih =>
    intro j n v hj hn
    obtain ⟨n, rfl⟩ : ∃ k, n = k + 1 := ⟨n - 1, by omega⟩
    rw [hstep n j v (by omega), ih (j + 1) n _ (by omega) (by omega), sS, Int32.add_assoc]
/-- a loop by its invariant: it ends at e, or before -/
theorem linv {S R : Type} (Lf : Nat → Nat → S → Option R) (I : Nat → S → Prop) (P : R → Prop) (e : Nat) (hend : ∀ n s, I e s → ∃ r, Lf (n + 1) e s = some r ∧ P r)
    (hstep : ∀ n j s, j < e → I j s → (∃ s', I (j + 1) s' ∧ Lf (n + 1) j s = Lf n (j + 1) s') ∨ ∃ r, Lf (n + 1) j s = some r ∧ P r) : ∀ d j n s, j + d = e → d < n → I j s → ∃ r, Lf n j s = some r ∧ P r := by
  intro d
  induction d with
  | zero =>
    intro j n s hj hn hI
    obtain ⟨n, rfl⟩ : ∃ k, n = k + 1 := ⟨n - 1, by omega⟩
    have : j = e := by omega
    subst this
    exact hend n s hI
  | succ d ih =>
    intro j n s hj hn hI
    obtain ⟨n, rfl⟩ : ∃ k, n = k + 1 := ⟨n - 1, by omega⟩
    rcases hstep n j s (by omega) hI with ⟨s', h1, h2⟩ | h
    · rw [h2]
      exact ih (j + 1) n s' (by omega) (by omega) h1
    · exact h
-- the store
theorem zup_same (σ : zS) (q : Nat) (e : zE) : zup σ q e q = some e := by simp [zup]
theorem zup_ne (σ : zS) {q a : Nat} (e : zE) (h : a ≠ q) : zup σ q e a = σ a := by simp [zup, h]
theorem aI_at {σ : zS} {q n k kd : Nat} {f : Nat → Int32} {x : Int32} (h : σ q = some (.inl (kd, n, .inl f))) (hx : x = nI k) (hk : k < n) (hn : n < 2 ^ 31) : aI kd σ q x = some (f k) := by
  subst hx
  unfold aI
  rw [h]
  dsimp only
  rw [if_pos ⟨rfl, by rw [nI_clamp (by omega)]; exact fun q => q.elim (nI_pos (by omega)) (by omega)⟩, nI_clamp (by omega)]
theorem uI_at {σ : zS} {q n k kd : Nat} {f : Nat → Int32} {x y : Int32} (h : σ q = some (.inl (kd, n, .inl f))) (hx : x = nI k) (hk : k < n) (hn : n < 2 ^ 31) : uI kd σ q x y = some (zup σ q (.inl (kd, n, .inl (upd f k y)))) := by
  subst hx
  unfold uI
  rw [h]
  dsimp only
  rw [if_pos ⟨rfl, by rw [nI_clamp (by omega)]; exact fun q => q.elim (nI_pos (by omega)) (by omega)⟩, nI_clamp (by omega)]
theorem gI_at {σ : zS} {ci q k : Nat} {fs : List Value} {x : Int32} (h : σ q = some (.inr (ci, fs))) (hx : fs[k]? = some (.int x)) : gI σ ci k q = some x := by
  unfold gI
  rw [h]
  dsimp only
  rw [if_pos rfl, hx]
theorem gA_at {σ : zS} {ci q k x : Nat} {fs : List Value} (h : σ q = some (.inr (ci, fs))) (hx : fs[k]? = some (.ref x)) : gA σ ci k q = some x := by
  unfold gA
  rw [h]
  dsimp only
  rw [if_pos rfl, hx]
theorem sI_at {σ : zS} {ci q k : Nat} {fs : List Value} {x : Int32} (h : σ q = some (.inr (ci, fs))) (hk : k < fs.length) : sI σ ci k q x = some (zup σ q (.inr (ci, fs.set k (.int x)))) := by
  unfold sI sV
  rw [h]
  dsimp only
  rw [if_pos ⟨rfl, hk⟩]
theorem isO_at {σ : zS} {ci q : Nat} {fs : List Value} (h : σ q = some (.inr (ci, fs))) : isO σ ci q = some () := by
  unfold isO
  rw [h]
  dsimp only
  rw [if_pos rfl]
theorem aL_at {σ : zS} {q n kd : Nat} {a : (Nat → Int32) ⊕ (Nat → Int64) ⊕ (Nat → UInt32) ⊕ (Nat → UInt64) ⊕ (Nat → Option Nat)} (h : σ q = some (.inl (kd, n, a))) : aL kd σ q = some (nI n) := by
  unfold aL
  rw [h]
  dsimp only
  rw [if_pos rfl]
  rfl
theorem upd_same (f : Nat → Int32) (k : Nat) (x : Int32) : upd f k x k = x := pk_us
theorem upd_ne (f : Nat → Int32) {k j : Nat} (x : Int32) (h : j ≠ k) : upd f k x j = f j := pk_un h
/-- a row of the reference: 23 numbers from o on, in the array at A -/
def Rw (σ : zS) (A o : Nat) (r : Nat → Int32) : Prop := ∃ (n : Nat) (F : Nat → Int32), σ A = some (.inl (1, n, .inl F)) ∧ o + 23 ≤ n ∧ n < 100000 ∧ ∀ j, j < 23 → F (o + j) = r j
theorem Rw.rd {σ : zS} {A o j : Nat} {r : Nat → Int32} {x : Int32} (h : Rw σ A o r) (hj : j < 23) (hx : x = nI (o + j)) : aI 1 σ A x = some (r j) := by
  obtain ⟨n, F, h1, h2, h3, h4⟩ := h
  rw [aI_at h1 hx (by omega) (by omega), h4 j hj]
/-- a sketch of the class, at q, with its rows behind it -/
def Sk (σ : zS) (q : Nat) (r : Nat → Int32) : Prop := ∃ hs rg : Nat → Int32, σ q = some (.inr (3, [.int (r 0), .int (r 1), .int (r 2), .int (r 4), .int (r 5), .ref (q + 1), .ref (q + 2)])) ∧ σ (q + 1) = some (.inl (1, 8, .inl hs)) ∧ σ (q + 2) = some (.inl (1, 8, .inl rg)) ∧ (∀ j, j < 8 → nI j < r 5 → hs j = r (6 + j)) ∧ ∀ j, j < 8 → rg j = r (14 + j)
def fcnt (r : Nat → Int32) : Int32 := sS (fun i => if r (14 + i) ≤ 0 then 0 else 1) 8 0
theorem X9_filled {N : Nat} {σ : zS} {A o : Nat} {r : Nat → Int32} (hN : 8 < N) (h : Rw σ A o r) : m_X9_filled N σ A (nI o) = some (fcnt r) := by
  unfold m_X9_filled
  rw [show (0 : Int32) = nI 0 from rfl]
  have key := lsum (Lf := fun n v j => m_X9_filled_L4 N n σ A (nI o) v j) (f := fun i => if r (14 + i) ≤ 0 then 0 else 1) (e := 8)
    (fun n v => by
      show m_X9_filled_L4 N (n + 1) σ A (nI o) v (nI 8) = _
      rw [m_X9_filled_L4, if_pos (by decide)])
    (fun n j v hj => by
      show m_X9_filled_L4 N (n + 1) σ A (nI o) v (nI j) = m_X9_filled_L4 N n σ A (nI o) _ (nI (j + 1))
      rw [m_X9_filled_L4, if_neg (le_neg (a := 8) hj (by decide)), h.rd (j := 14 + j) (by omega) (by simp only [nlit, nI_add]; congr 1; omega), Option.bind_some, ibs, Option.bind_some, Option.bind_some, nI_1])
    8 0 N (nI 0) rfl hN
  rw [key, Option.bind_some]
  show some ((0 : Int32) + _) = _
  rw [Int32.zero_add]
  rfl
theorem X3_filled {N : Nat} {σ : zS} {q : Nat} {r : Nat → Int32} (hN : 8 < N) (h : Sk σ q r) : m_X3_filledRegisters N σ q = some (fcnt r) := by
  obtain ⟨hs, rg, h1, h2, h3, h4, h5⟩ := h
  unfold m_X3_filledRegisters
  rw [gA_at h1 rfl, Option.bind_some, aL_at h3, Option.bind_some, show (0 : Int32) = nI 0 from rfl]
  have key := lsum (Lf := fun n v j => m_X3_filledRegisters_L13 N n σ v (q + 2) (nI 8) j) (f := fun i => if r (14 + i) ≤ 0 then 0 else 1) (e := 8)
    (fun n v => by
      show m_X3_filledRegisters_L13 N (n + 1) σ v (q + 2) (nI 8) (nI 8) = _
      rw [m_X3_filledRegisters_L13, if_pos (by decide)])
    (fun n j v hj => by
      show m_X3_filledRegisters_L13 N (n + 1) σ v (q + 2) (nI 8) (nI j) = m_X3_filledRegisters_L13 N n σ _ (q + 2) (nI 8) (nI (j + 1))
      rw [m_X3_filledRegisters_L13, if_neg (le_neg (a := 8) hj (by decide)), aI_at h3 rfl hj (by decide), Option.bind_some, h5 j hj, Option.bind_some, ibs, Option.bind_some, nI_1]
      congr 1
      split
      · rw [Int32.add_zero]
      · rfl)
    8 0 N (nI 0) rfl hN
  rw [key, Option.bind_some]
  show some ((0 : Int32) + _) = _
  rw [Int32.zero_add]
  rfl
