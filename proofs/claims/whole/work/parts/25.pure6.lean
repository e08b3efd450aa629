/-! Pure, 6: the abstract state, the class's and the reference's forms of it; reads -/
abbrev AS : Type := Nat × Nat × Nat × (Nat → Nat → Int32) × (Nat → Nat → Int32) × (Nat → Nat → Int32)
def sM (s : AS) : Nat := s.1
def sT (s : AS) : Nat := s.2.1
def sL (s : AS) : Nat := s.2.2.1
def sR (s : AS) : Nat → Nat → Int32 := s.2.2.2.1
def sG (s : AS) : Nat → Nat → Int32 := s.2.2.2.2.1
def sK (s : AS) : Nat → Nat → Int32 := s.2.2.2.2.2
def cntG (g : Nat → Int32) : Nat := nS (fun x => if g x ≤ 0 then 0 else 1) 1000 0
def WT (t : Nat) (r g : Nat → Int32) : Prop := WR r ∧ r 22 = nI (cntG g) ∧ ∀ x, x < 1000 → ∃ k : Nat, k ≤ t ∧ g x = nI k
def WS (s : AS) : Prop := sM s ≤ 6 ∧ sT s ≤ 20000 ∧ sL s ≤ 8 ∧ ∀ i, i < sM s → WT (sT s) (sR s i) (sG s i)
def Tb (σ : zS) (q : Nat) (r g : Nat → Int32) : Prop := σ q = some (.inr (5, [.ref (q + 1), .ref (q + 4), .int (r 22), .int (r 3)])) ∧ Sk σ (q + 1) r ∧ ∃ f : Nat → Int32, σ (q + 4) = some (.inl (1, 1000, .inl f)) ∧ ∀ x, x < 1000 → f x = g x - 1
def Lo (σ : zS) (q l : Nat) (K : Nat → Nat → Int32) : Prop := σ q = some (.inr (2, [.int (nI l), .ref (q + 1), .ref (q + 2), .ref (q + 3)])) ∧ ∃ f0 f1 f2 : Nat → Int32, σ (q + 1) = some (.inl (1, 8, .inl f0)) ∧ σ (q + 2) = some (.inl (1, 8, .inl f1)) ∧ σ (q + 3) = some (.inl (1, 8, .inl f2)) ∧ ∀ k, k < l → k < 8 → f0 k = K k 0 ∧ f1 k = K k 1 ∧ f2 k = K k 2
def St (σ : zS) (a : Nat) (s : AS) : Prop := σ a = some (.inr (4, [.ref (a + 1), .ref (a + 2), .int (nI (sM s)), .int (nI (sT s))])) ∧ (∃ f : Nat → Option Nat, σ (a + 1) = some (.inl (3, 6, .inr (.inr (.inr (.inr f))))) ∧ ∀ i, i < 6 → f i = some (a + 6 + 5 * i)) ∧ Lo σ (a + 2) (sL s) (sK s) ∧ (∀ i, i < 6 → ∃ r g, Tb σ (a + 6 + 5 * i) r g) ∧ ∀ i, i < sM s → Tb σ (a + 6 + 5 * i) (sR s i) (sG s i)
/-- the form of a state, whatever it holds -/
def Sh (σ : zS) (a : Nat) : Prop := ∃ u, sM u ≤ 6 ∧ St σ a u
def FR (F : Nat → Int32) (s : AS) : Prop := F 138 = nI (sM s) ∧ F 139 = nI (sT s) ∧ F 140 = nI (sL s) ∧ (∀ i, i < sM s → (∀ j, j < 23 → F (23 * i + j) = sR s i j) ∧ ∀ x, x < 1000 → F (165 + 1000 * i + x) = sG s i x) ∧ ∀ k, k < sL s → ∀ w, w < 3 → F (141 + 3 * (sL s - 1 - k) + w) = sK s k w
def Cd (σ : zS) (q : Nat) : Prop := ∃ (c e : Int32) (f : Nat → Int32), σ q = some (.inr (0, [.ref (q + 1), .int c, .int e])) ∧ σ (q + 1) = some (.inl (1, 4, .inl f))
def Hi (σ : zS) (b n : Nat) (H : Nat → AS) : Prop := σ (b + 37) = some (.inr (1, [.ref (b + 38), .int (nI n)])) ∧ ∃ (f : Nat → Option Nat) (p : Nat → Nat), σ (b + 38) = some (.inl (2, 4, .inr (.inr (.inr (.inr f))))) ∧ (∀ k, k < 4 → p k < 4 ∧ f k = some (b + 39 + 36 * p k)) ∧ (∀ j k, j < 4 → k < 4 → p j = p k → j = k) ∧ (∀ k, k < 4 → Sh σ (b + 39 + 36 * k)) ∧ ∀ k, k < n → St σ (b + 39 + 36 * p k) (H k)
def CR (σ : zS) (b : Nat) (s : AS) (n : Nat) (H : Nat → AS) (T : Nat → Int32) (len : Nat) : Prop := σ b = some (.inr (8, [.ref (b + 1), .ref (b + 37), .ref (b + 183), .ref (b + 185), .ref (b + 187), .ref (b + 226)])) ∧ St σ (b + 1) s ∧ Hi σ b n H ∧ (σ (b + 183) = some (.inr (6, [.ref (b + 184), .int (nI len)])) ∧ ∃ f : Nat → Int32, σ (b + 184) = some (.inl (0, 80, .inl f)) ∧ ∀ j, j < len → f j = T j) ∧ Cd σ (b + 185) ∧ (∃ d a re ca : Int32, σ (b + 187) = some (.inr (7, [.ref (b + 188), .ref (b + 224), .int d, .int a, .int re, .int ca]))) ∧ Sh σ (b + 188) ∧ Cd σ (b + 224) ∧ ∃ r, Sk σ (b + 226) r
def mF (M : Nat) (f6 f7 len at_ ok re ca : Int32) : List Value := [.ref (M + 1), .ref (M + 2), .ref (M + 3), .ref (M + 4), .ref (M + 5), .ref (M + 6), .int f6, .int f7, .ref (M + 7), .ref (M + 8), .int len, .int at_, .int ok, .int re, .int ca]
def MR (σ : zS) (M : Nat) (s : AS) (n : Nat) (H : Nat → AS) (T : Nat → Int32) (len : Nat) : Prop := ∃ (first : Nat) (at_ ok re ca : Int32), first < 4 ∧ σ M = some (.inr (9, mF M (nI first) (nI n) (nI len) at_ ok re ca)) ∧ (∃ F : Nat → Int32, σ (M + 1) = some (.inl (1, 6165, .inl F)) ∧ FR F s) ∧ (∃ F : Nat → Int32, σ (M + 2) = some (.inl (1, 6165, .inl F))) ∧ (∀ k, k < 4 → ∃ F : Nat → Int32, σ (M + 3 + k) = some (.inl (1, 6165, .inl F))) ∧ (∀ k, k < n → ∃ F : Nat → Int32, σ (M + 3 + (first + k) % 4) = some (.inl (1, 6165, .inl F)) ∧ FR F (H k)) ∧ (∃ X : Nat → Int32, σ (M + 7) = some (.inl (1, 23, .inl X))) ∧ ∃ C : Nat → Int32, σ (M + 8) = some (.inl (1, 80, .inl C)) ∧ ∀ j, j < len → C j = T j
def WH (s : AS) (n : Nat) (H : Nat → AS) (T : Nat → Int32) (len : Nat) : Prop := WS s ∧ n ≤ 4 ∧ (∀ k, k < n → WS (H k)) ∧ len ≤ 80 ∧ ∀ j, j < len → ∃ c : Nat, 32 ≤ c ∧ c ≤ 126 ∧ T j = nI c
-- the class: tables by their numbers
theorem aA_at {σ : zS} {q n k kd : Nat} {f : Nat → Option Nat} {x : Int32} {y : Nat} (h : σ q = some (.inl (kd, n, .inr (.inr (.inr (.inr f)))))) (hx : x = nI k) (hk : k < n) (hn : n < 2 ^ 31) (hy : f k = some y) : aA kd σ q x = some y := by
  subst hx
  unfold aA
  rw [h]
  dsimp only
  rw [if_pos ⟨rfl, by rw [nI_clamp (by omega)]; exact fun q => q.elim (nI_pos (by omega)) (by omega)⟩, nI_clamp (by omega), hy]
theorem St.find_in {N : Nat} {σ : zS} {a i : Nat} {s : AS} (h : St σ a s) (hM : sM s ≤ 6) (hi : i < sM s) : m_X4_find N σ a (nI i) = some (some (a + 6 + 5 * i)) := by
  obtain ⟨h1, ⟨f, h2, h3⟩, h4, h5, h6⟩ := h
  unfold m_X4_find
  rw [if_neg (nI_pos (by omega)), gI_at h1 rfl, Option.bind_some, if_neg (nI_ge (by omega) (by omega)), if_neg (show ¬ (6 : Int32) ≤ nI i from le_neg (a := 6) (by omega) (by decide)), gA_at h1 rfl, Option.bind_some, aA_at h2 rfl (by omega) (by decide) (h3 i (by omega)), Option.bind_some]
theorem St.find_out {N : Nat} {σ : zS} {a : Nat} {s : AS} {v : Int32} (h : St σ a s) (hv : v < 0 ∨ nI (sM s) ≤ v) : m_X4_find N σ a v = some none := by
  obtain ⟨h1, h2⟩ := h
  unfold m_X4_find
  by_cases c : v < 0
  · rw [if_pos c]
  · rw [if_neg c, gI_at h1 rfl, Option.bind_some, if_pos (hv.resolve_left c)]
theorem St.o {σ : zS} {a : Nat} {s : AS} (h : St σ a s) : isO σ 4 a = some () ∧ gA σ 4 0 a = some (a + 1) ∧ gA σ 4 1 a = some (a + 2) ∧ gI σ 4 2 a = some (nI (sM s)) ∧ gI σ 4 3 a = some (nI (sT s)) := ⟨isO_at h.1, gA_at h.1 rfl, gA_at h.1 rfl, gI_at h.1 rfl, gI_at h.1 rfl⟩
theorem Tb.o {σ : zS} {q : Nat} {r g : Nat → Int32} (h : Tb σ q r g) : isO σ 5 q = some () ∧ gA σ 5 0 q = some (q + 1) ∧ gA σ 5 1 q = some (q + 4) ∧ gI σ 5 2 q = some (r 22) ∧ gI σ 5 3 q = some (r 3) ∧ isO σ 3 (q + 1) = some () := ⟨isO_at h.1, gA_at h.1 rfl, gA_at h.1 rfl, gI_at h.1 rfl, gI_at h.1 rfl, h.2.1.fld.2.2.2.2.2.1⟩
theorem CR.o {σ : zS} {b n len : Nat} {s : AS} {H : Nat → AS} {T : Nat → Int32} (h : CR σ b s n H T len) : isO σ 8 b = some () ∧ gA σ 8 0 b = some (b + 1) ∧ gA σ 8 1 b = some (b + 37) ∧ gA σ 8 2 b = some (b + 183) ∧ gA σ 8 3 b = some (b + 185) ∧ gA σ 8 4 b = some (b + 187) ∧ gA σ 8 5 b = some (b + 226) := ⟨isO_at h.1, gA_at h.1 rfl, gA_at h.1 rfl, gA_at h.1 rfl, gA_at h.1 rfl, gA_at h.1 rfl, gA_at h.1 rfl⟩
-- the reference
def MB (σ : zS) (M : Nat) : Prop := ∃ a b c d e f g : Int32, σ M = some (.inr (9, mF M a b c d e f g))
theorem MB.o {σ : zS} {M : Nat} (h : MB σ M) : isO σ 9 M = some () ∧ gA σ 9 0 M = some (M + 1) ∧ gA σ 9 1 M = some (M + 2) ∧ gA σ 9 8 M = some (M + 7) ∧ gA σ 9 9 M = some (M + 8) := by
  obtain ⟨a, b, c, d, e, f, g, h⟩ := h
  exact ⟨isO_at h, gA_at h rfl, gA_at h rfl, gA_at h rfl, gA_at h rfl⟩
theorem MR.mb {σ : zS} {M n len : Nat} {s : AS} {H : Nat → AS} {T : Nat → Int32} (h : MR σ M s n H T len) : MB σ M := by
  obtain ⟨f, a, o, r, c, -, h1, -⟩ := h
  exact ⟨_, _, _, _, _, _, _, h1⟩
/-- the reference's present numbers -/
def Nw (σ : zS) (M : Nat) (s : AS) : Prop := MB σ M ∧ ∃ F : Nat → Int32, σ (M + 1) = some (.inl (1, 6165, .inl F)) ∧ FR F s
theorem MR.nw {σ : zS} {M n len : Nat} {s : AS} {H : Nat → AS} {T : Nat → Int32} (h : MR σ M s n H T len) : Nw σ M s := by
  have := h.mb
  obtain ⟨f, a, o, r, c, -, h1, h2, -⟩ := h
  exact ⟨this, h2⟩
theorem i32_le_of {m : Nat} {v : Int32} (hm : m < 2 ^ 30) (h : ¬ v < 0) (h2 : nI m ≤ v) : nI m - 1 < v := by
  rw [Int32.lt_iff_toInt_lt, show (1 : Int32) = nI 1 from rfl, pk_sub_toInt hm (by decide)]
  rw [Int32.le_iff_toInt_le, nI_toInt (by omega)] at h2
  omega
theorem X9_isTable_in {N : Nat} {σ : zS} {M i : Nat} {s : AS} (h : Nw σ M s) (hM : sM s ≤ 6) (hi : i < sM s) : m_X9_isTable N σ M (nI i) = some 1 := by
  obtain ⟨h0, F, h1, h2⟩ := h
  unfold m_X9_isTable m_X9_in
  rw [h0.o.2.1, Option.bind_some, aI_at h1 (show (138 : Int32) = nI 138 from rfl) (by decide) (by decide), Option.bind_some, h2.1, if_neg (nI_pos (by omega)), show (1 : Int32) = nI 1 from rfl, pk_sub (by omega), if_neg (nI_nlt (by omega) (by omega))]
  rfl
theorem X9_isTable_out {N : Nat} {σ : zS} {M : Nat} {s : AS} {v : Int32} (h : Nw σ M s) (hM : sM s ≤ 6) (hv : v < 0 ∨ nI (sM s) ≤ v) : m_X9_isTable N σ M v = some 0 := by
  obtain ⟨h0, F, h1, h2⟩ := h
  unfold m_X9_isTable m_X9_in
  rw [h0.o.2.1, Option.bind_some, aI_at h1 (show (138 : Int32) = nI 138 from rfl) (by decide) (by decide), Option.bind_some, h2.1]
  by_cases c : v < 0
  · rw [if_pos c]
    rfl
  · rw [if_neg c, if_pos (i32_le_of (by omega) c (hv.resolve_left c))]
    rfl
theorem tbl_cases (s : AS) (hM : sM s ≤ 6) (v : Int32) : (∃ i, i < sM s ∧ v = nI i) ∨ (v < 0 ∨ nI (sM s) ≤ v) := by
  rcases pk_ix v (n := sM s) (by omega) with h | h | h
  · exact Or.inr (Or.inl h)
  · exact Or.inr (Or.inr h)
  · exact Or.inl h
theorem Nw.row {σ : zS} {M i : Nat} {s : AS} (h : Nw σ M s) (hM : sM s ≤ 6) (hi : i < sM s) : Rw σ (M + 1) (23 * i) (sR s i) := by
  obtain ⟨h0, F, h1, h2⟩ := h
  exact ⟨6165, F, h1, by omega, by decide, (h2.2.2.2.1 i hi).1⟩
theorem Nw.seen {σ : zS} {M i x : Nat} {s : AS} {v : Int32} (h : Nw σ M s) (hM : sM s ≤ 6) (hi : i < sM s) (hx : x < 1000) (hv : v = nI (165 + 1000 * i + x)) : aI 1 σ (M + 1) v = some (sG s i x) := by
  obtain ⟨h0, F, h1, h2⟩ := h
  rw [aI_at h1 hv (by omega) (by decide), (h2.2.2.2.1 i hi).2 x hx]
theorem wi_cases (v : Int32) (L : Nat) (hL : L < 100000) : (∃ k, k ≤ L ∧ v = nI k) ∨ (v < 0 ∨ nI L < v) := by
  rcases pk_ix v (n := L + 1) (by omega) with h | h | ⟨j, h, e⟩
  · exact Or.inr (Or.inl h)
  · by_cases c : v < 0
    · exact Or.inr (Or.inl c)
    · refine Or.inr (Or.inr ?_)
      have := i32_le_of (m := L + 1) (by omega) c h
      rw [show (1 : Int32) = nI 1 from rfl, pk_sub (by omega)] at this
      exact this
  · exact Or.inl ⟨j, by omega, e⟩
theorem X8_within_in {N : Nat} {σ : zS} {k L : Nat} (hL : L < 2 ^ 30) (hk : k ≤ L) : m_X8_within N σ (nI k) (nI L) = some 1 := by
  unfold m_X8_within
  rw [if_neg (nI_pos (by omega)), if_neg (nI_nlt (by omega) (by omega))]
theorem X8_within_out {N : Nat} {σ : zS} {v : Int32} {L : Nat} (h : v < 0 ∨ nI L < v) : m_X8_within N σ v (nI L) = some 0 := by
  unfold m_X8_within
  by_cases c : v < 0
  · rw [if_pos c]
  · rw [if_neg c, if_pos (h.resolve_left c)]
theorem X9_in_in {N : Nat} {σ : zS} {k L : Nat} (hL : L < 2 ^ 30) (hk : k ≤ L) : m_X9_in N σ (nI k) 0 (nI L) = some 1 := by
  unfold m_X9_in
  rw [if_neg (nI_pos (by omega)), if_neg (nI_nlt (by omega) (by omega))]
theorem X9_in_out {N : Nat} {σ : zS} {v : Int32} {L : Nat} (h : v < 0 ∨ nI L < v) : m_X9_in N σ v 0 (nI L) = some 0 := by
  unfold m_X9_in
  by_cases c : v < 0
  · rw [if_pos c]
  · rw [if_neg c, if_pos (h.resolve_left c)]
theorem thing_in {N : Nat} {σ : zS} {k : Nat} (hk : k < 1000) : m_X8_isThing N σ (nI k) = some 1 ∧ m_X9_isThing N σ (nI k) = some 1 := by
  constructor
  · unfold m_X8_isThing
    rw [if_neg (nI_pos (by omega)), if_neg (show ¬ (1000 : Int32) ≤ nI k from le_neg (a := 1000) (by omega) (by decide))]
  · unfold m_X9_isThing
    rw [show (999 : Int32) = nI 999 from rfl, X9_in_in (by decide) (by omega)]
    rfl
theorem thing_out {N : Nat} {σ : zS} {v : Int32} (h : v < 0 ∨ nI 999 < v) : m_X8_isThing N σ v = some 0 ∧ m_X9_isThing N σ v = some 0 := by
  constructor
  · unfold m_X8_isThing
    by_cases c : v < 0
    · rw [if_pos c]
    · rw [if_neg c, if_pos ?_]
      have := h.resolve_left c
      rw [Int32.lt_iff_toInt_lt, nI_toInt (by decide)] at this
      rw [Int32.le_iff_toInt_le, show (1000 : Int32).toInt = 1000 from rfl]
      omega
  · unfold m_X9_isThing
    rw [show (999 : Int32) = nI 999 from rfl, X9_in_out h]
    rfl
-- told, exact, error
theorem toldN_le (r : Nat → Int32) (h : rW r) : toldN r ≤ 1000 := by
  have := lowN_le r h
  have : highN r ≤ 1000 := Nat.min_le_right _ _
  unfold toldN
  omega
theorem X9_toldOf {N : Nat} {σ : zS} {M i : Nat} {s : AS} (hN : 50 < N) (h : Nw σ M s) (hW : WS s) (hi : i < sM s) : m_X9_toldOf N σ M (nI i) = some (nI (toldN (sR s i))) := by
  have hw := (hW.2.2.2 i hi).1
  unfold m_X9_toldOf
  rw [h.1.o.2.1, Option.bind_some, show (23 : Int32) = nI 23 from rfl, pk_mul, X9_told hN (h.row hW.1 hi) hw.1 hw.lh, Option.bind_some]
theorem X9_exact {N : Nat} {σ : zS} {M i : Nat} {s : AS} (h : Nw σ M s) (hW : WS s) (hi : i < sM s) : m_X9_exact N σ M (nI i) = some (sR s i 22) := by
  unfold m_X9_exact
  rw [h.1.o.2.1, Option.bind_some, (h.row hW.1 hi).rd (j := 22) (by omega) (by simp only [nlit, pk_mul, nI_add]), Option.bind_some]
def errI (r : Nat → Int32) : Int32 := nI (toldN r) - r 22
theorem X9_error {N : Nat} {σ : zS} {M i : Nat} {s : AS} (hN : 50 < N) (h : Nw σ M s) (hW : WS s) (hi : i < sM s) : m_X9_error N σ M (nI i) = some (errI (sR s i)) := by
  unfold m_X9_error
  rw [h.1.o.1, Option.bind_some, X9_toldOf hN h hW hi, Option.bind_some, Option.bind_some, X9_exact h hW hi, Option.bind_some]
  rfl
theorem X5_error {N : Nat} {σ : zS} {q : Nat} {r g : Nat → Int32} (hN : 50 < N) (h : Tb σ q r g) (hw : WR r) : m_X5_error N σ q = some (errI r) := by
  unfold m_X5_error
  rw [h.o.2.1, Option.bind_some, h.o.2.2.2.2.2, Option.bind_some, X3_told hN h.2.1 hw.1, Option.bind_some, h.o.2.2.2.1, Option.bind_some]
  rfl
theorem St.tb {σ : zS} {a i : Nat} {s : AS} (h : St σ a s) (hi : i < sM s) : Tb σ (a + 6 + 5 * i) (sR s i) (sG s i) := h.2.2.2.2 i hi
-- tableOf
theorem op_tableOf {N : Nat} {σ : zS} {b M n len : Nat} {s : AS} {H : Nat → AS} {T : Nat → Int32} (hN : 7000 < N) (hW : WH s n H T len) (hC : CR σ b s n H T len) (hR : MR σ M s n H T len) (v w : Int32) : ∃ y, m_X8_tableOf N σ b v w = some y ∧ m_X9_tableOf N σ M v w = some y := by
  have hws := hW.1
  have nw := hR.nw
  have st := hC.2.1
  unfold m_X8_tableOf m_X9_tableOf
  rw [hC.o.2.1, Option.bind_some, st.o.1, Option.bind_some, nw.1.o.1, Option.bind_some]
  rcases tbl_cases s hws.1 v with ⟨i, hi, rfl⟩ | hv
  · have hw := (hws.2.2.2 i hi).1
    have tb := st.tb hi
    have rw' := nw.row hws.1 hi
    rw [st.find_in hws.1 hi, Option.bind_some, Option.elim_some, X9_isTable_in nw hws.1 hi, Option.bind_some, if_neg (by decide), show (9 : Int32) = nI 9 from rfl]
    rcases wi_cases w 9 (by decide) with ⟨k, hk, rfl⟩ | hw9
    · rw [X8_within_in (by decide) hk, Option.bind_some, if_neg (by decide), X9_in_in (by decide) hk, Option.bind_some, if_neg (by decide), tb.o.1, Option.bind_some, Option.bind_some, show (23 : Int32) = nI 23 from rfl, pk_mul, nw.1.o.2.1]
      unfold m_X5_property
      have t1 := X3_told (N := N) (by omega) tb.2.1 hw.1
      have t2 := X9_toldOf (N := N) (by omega) nw hws hi
      have t3 := X9_exact (N := N) nw hws hi
      have t4 := X3_low (N := N) (by omega) tb.2.1 hw.1
      have t5 := X9_low (N := N) (by omega) rw' hw.1
      have t6 := X3_high (N := N) tb.2.1 hw.1
      have t7 := X9_high (N := N) rw' hw.1
      have t8 := X5_error (N := N) (by omega) tb hw
      have t9 := X9_error (N := N) (by omega) nw hws hi
      have t10 := X3_rough (N := N) (by omega) tb.2.1 hw.1
      have t11 := X9_rough (N := N) (by omega) rw' hw.1
      have r0 := rw'.rd (j := 0) (x := nI (23 * i) + nI 0) (by omega) (by rw [nI_add])
      have r1 := rw'.rd (j := 1) (x := nI (23 * i) + nI 1) (by omega) (by rw [nI_add])
      have r2 := rw'.rd (j := 2) (x := nI (23 * i) + 2) (by omega) (by simp only [nlit, nI_add])
      have r3 := rw'.rd (j := 3) (x := nI (23 * i) + 3) (by omega) (by simp only [nlit, nI_add])
      have cs : ∀ a c : Nat, a < 10 → c < 10 → a ≠ c → ¬ nI a = OfNat.ofNat c := fun a c ha hc hac => by
        rw [nlit, nI_eq (by omega) (by omega)]
        exact hac
      obtain ⟨o1, o2, o3, o4, o5, o6⟩ := tb.o
      obtain ⟨p0, p1, p2, p3, p4, p5, p6, p7⟩ := tb.2.1.fld
      have : k = 0 ∨ k = 1 ∨ k = 2 ∨ k = 3 ∨ k = 4 ∨ k = 5 ∨ k = 6 ∨ k = 7 ∨ k = 8 ∨ k = 9 := by omega
      rcases this with rfl | rfl | rfl | rfl | rfl | rfl | rfl | rfl | rfl | rfl
      · exact ⟨_, by rw [if_pos (by rfl), o2, Option.bind_some, p0, Option.bind_some, Option.bind_some], by rw [if_pos (by rfl), Option.bind_some, r0, Option.bind_some]⟩
      · exact ⟨_, by rw [if_neg (by decide), if_pos (by rfl), o2, Option.bind_some, p1, Option.bind_some, Option.bind_some], by rw [if_neg (by decide), if_pos (by rfl), Option.bind_some, r1, Option.bind_some]⟩
      · exact ⟨_, by rw [if_neg (by decide), if_neg (by decide), if_pos (by rfl), o2, Option.bind_some, o6, Option.bind_some, t1, Option.bind_some, Option.bind_some], by rw [if_neg (by decide), if_neg (by decide), if_pos (by rfl), Option.bind_some, t2, Option.bind_some]⟩
      · exact ⟨_, by rw [if_neg (by decide), if_neg (by decide), if_neg (by decide), if_pos (by rfl), o4, Option.bind_some, Option.bind_some], by rw [if_neg (by decide), if_neg (by decide), if_neg (by decide), if_pos (by rfl), Option.bind_some, t3, Option.bind_some]⟩
      · exact ⟨_, by rw [if_neg (by decide), if_neg (by decide), if_neg (by decide), if_neg (by decide), if_pos (by rfl), o2, Option.bind_some, o6, Option.bind_some, t4, Option.bind_some, Option.bind_some], by rw [if_neg (by decide), if_neg (by decide), if_neg (by decide), if_neg (by decide), if_pos (by rfl), Option.bind_some, t5, Option.bind_some]⟩
      · exact ⟨_, by rw [if_neg (by decide), if_neg (by decide), if_neg (by decide), if_neg (by decide), if_neg (by decide), if_pos (by rfl), o2, Option.bind_some, o6, Option.bind_some, t6, Option.bind_some, Option.bind_some], by rw [if_neg (by decide), if_neg (by decide), if_neg (by decide), if_neg (by decide), if_neg (by decide), if_pos (by rfl), Option.bind_some, t7, Option.bind_some]⟩
      · exact ⟨_, by rw [if_neg (by decide), if_neg (by decide), if_neg (by decide), if_neg (by decide), if_neg (by decide), if_neg (by decide), if_pos (by rfl), o1, Option.bind_some, t8, Option.bind_some, Option.bind_some], by rw [if_neg (by decide), if_neg (by decide), if_neg (by decide), if_neg (by decide), if_neg (by decide), if_neg (by decide), if_pos (by rfl), Option.bind_some, t9, Option.bind_some, Int32.add_comm]⟩
      · exact ⟨_, by rw [if_neg (by decide), if_neg (by decide), if_neg (by decide), if_neg (by decide), if_neg (by decide), if_neg (by decide), if_neg (by decide), if_pos (by rfl), o2, Option.bind_some, p2, Option.bind_some, Option.bind_some], by rw [if_neg (by decide), if_neg (by decide), if_neg (by decide), if_neg (by decide), if_neg (by decide), if_neg (by decide), if_neg (by decide), if_pos (by rfl), Option.bind_some, r2, Option.bind_some]⟩
      · exact ⟨_, by rw [if_neg (by decide), if_neg (by decide), if_neg (by decide), if_neg (by decide), if_neg (by decide), if_neg (by decide), if_neg (by decide), if_neg (by decide), if_pos (by rfl), o5, Option.bind_some, Option.bind_some], by rw [if_neg (by decide), if_neg (by decide), if_neg (by decide), if_neg (by decide), if_neg (by decide), if_neg (by decide), if_neg (by decide), if_neg (by decide), if_pos (by rfl), Option.bind_some, r3, Option.bind_some]⟩
      · exact ⟨_, by rw [if_neg (by decide), if_neg (by decide), if_neg (by decide), if_neg (by decide), if_neg (by decide), if_neg (by decide), if_neg (by decide), if_neg (by decide), if_neg (by decide), o2, Option.bind_some, o6, Option.bind_some, t10, Option.bind_some, Option.bind_some], by rw [if_neg (by decide), if_neg (by decide), if_neg (by decide), if_neg (by decide), if_neg (by decide), if_neg (by decide), if_neg (by decide), if_neg (by decide), if_neg (by decide), Option.bind_some, t11, Option.bind_some]⟩
    · rw [X8_within_out hw9, Option.bind_some, if_pos rfl, X9_in_out hw9, Option.bind_some, if_pos rfl]
      exact ⟨_, rfl, rfl⟩
  · rw [st.find_out hv, Option.bind_some, Option.elim_none, X9_isTable_out nw hws.1 hv, Option.bind_some, if_pos rfl]
    exact ⟨_, rfl, rfl⟩
