/-! Pure, 27: the constructors; the end of the pure part -/
theorem mkI (kd : Nat) (σ : zS) (n k : Nat) {len : Int32} (hl : len = nI k) (hk : k ≤ 10000) : ∃ σ', nAI kd σ n len = some (σ', n + 1) ∧ σ' n = some (.inl (kd, k, .inl (fun _ => 0))) ∧ ∀ x, x ≠ n → σ' x = σ x := by
  subst hl
  unfold nAI
  rw [nI_clamp (by omega), if_pos ⟨nI_pos (by omega), by omega⟩]
  exact ⟨_, rfl, zup_same _ _ _, fun x hx => zup_ne _ _ hx⟩
theorem mkA (kd : Nat) (σ : zS) (n k : Nat) {len : Int32} (hl : len = nI k) (hk : k ≤ 10000) : ∃ σ', nAA kd σ n len = some (σ', n + 1) ∧ σ' n = some (.inl (kd, k, .inr (.inr (.inr (.inr (fun _ => none)))))) ∧ ∀ x, x ≠ n → σ' x = σ x := by
  subst hl
  unfold nAA
  rw [nI_clamp (by omega), if_pos ⟨nI_pos (by omega), by omega⟩]
  exact ⟨_, rfl, zup_same _ _ _, fun x hx => zup_ne _ _ hx⟩
theorem mkO (σ : zS) (n ci : Nat) (fs : List Value) : ∃ σ', nO σ n ci fs = some (σ', n + 1) ∧ σ' n = some (.inr (ci, fs)) ∧ ∀ x, x ≠ n → σ' x = σ x := ⟨_, rfl, zup_same _ _ _, fun x hx => zup_ne _ _ hx⟩
theorem ptA {σ : zS} {ci q k x : Nat} {fs : List Value} (h : σ q = some (.inr (ci, fs))) (hk : k < fs.length) : ∃ σ', sA σ ci k q x = some σ' ∧ σ' q = some (.inr (ci, fs.set k (.ref x))) ∧ ∀ y, y ≠ q → σ' y = σ y := by
  unfold sA sV
  rw [h]
  dsimp only
  rw [if_pos ⟨rfl, hk⟩]
  exact ⟨_, rfl, zup_same _ _ _, fun y hy => zup_ne _ _ hy⟩
theorem ptU {kd ci : Nat} {σ : zS} {q n k v : Nat} {f : Nat → Option Nat} {fs : List Value} {x : Int32} (h : σ q = some (.inl (kd, n, .inr (.inr (.inr (.inr f)))))) (hv : σ v = some (.inr (ci, fs))) (hx : x = nI k) (hk : k < n) (hn : n < 2 ^ 31) : ∃ σ', uA kd ci σ q x v = some σ' ∧ σ' q = some (.inl (kd, n, .inr (.inr (.inr (.inr (va_up f k (some v))))))) ∧ ∀ y, y ≠ q → σ' y = σ y := by
  subst hx
  unfold uA
  rw [h, hv]
  dsimp only
  rw [if_pos ⟨rfl, rfl, by rw [nI_clamp (by omega)]; exact fun q => q.elim (nI_pos (by omega)) (by omega)⟩, nI_clamp (by omega)]
  exact ⟨_, rfl, zup_same _ _ _, fun y hy => zup_ne _ _ hy⟩
def zr0 : Nat → Int32 := fun _ => 0
def zg1 : Nat → Int32 := fun _ => 1
def zs0 : AS := (0, 0, 0, fun _ => zr0, fun _ => zg1, fun _ _ => 0)
theorem X3_init {N q : Nat} {σ : zS} (h : σ q = some (.inr (3, [.int 0, .int 0, .int 0, .int 0, .int 0, .null, .null]))) : ∃ σ', m_X3_init N σ (q + 1) q = some (σ', q + 3) ∧ Sk σ' q zr0 ∧ ∀ x, (x < q ∨ q + 3 ≤ x) → σ' x = σ x := by
  obtain ⟨σ1, a1, a2, a3⟩ := mkI 1 σ (q + 1) 8 (len := 8) rfl (by decide)
  obtain ⟨σ2, c1, c2, c3⟩ := ptA (x := q + 1) (k := 5) ((a3 q (by omega)).trans h) (Nat.le_of_ble_eq_true rfl)
  obtain ⟨σ3, d1, d2, d3⟩ := mkI 1 σ2 (q + 1 + 1) 8 (len := 8) rfl (by decide)
  obtain ⟨σ4, e1, e2, e3⟩ := ptA (x := q + 1 + 1) (k := 6) ((d3 q (by omega)).trans c2) (Nat.le_of_ble_eq_true rfl)
  refine ⟨σ4, ?_, ⟨fun _ => 0, fun _ => 0, e2, by rw [e3 _ (by omega), d3 _ (by omega), c3 _ (by omega)]; exact a2, by rw [e3 _ (by omega)]; exact d2, fun j _ _ => rfl, fun j _ => rfl⟩, fun x hx => by rw [e3 _ (by omega), d3 _ (by omega), c3 _ (by omega), a3 _ (by omega)]⟩
  unfold m_X3_init
  rw [a1, b2_some, c1, Option.bind_some, d1, b2_some, e1, Option.bind_some]
theorem X2_init {N q : Nat} {σ : zS} (h : σ q = some (.inr (2, [.int 0, .null, .null, .null]))) : ∃ σ', m_X2_init N σ (q + 1) q = some (σ', q + 4) ∧ Lo σ' q 0 (fun _ _ => 0) ∧ ∀ x, (x < q ∨ q + 4 ≤ x) → σ' x = σ x := by
  obtain ⟨σ1, a1, a2, a3⟩ := mkI 1 σ (q + 1) 8 (len := 8) rfl (by decide)
  obtain ⟨σ2, c1, c2, c3⟩ := ptA (x := q + 1) (k := 1) ((a3 q (by omega)).trans h) (Nat.le_of_ble_eq_true rfl)
  obtain ⟨σ3, d1, d2, d3⟩ := mkI 1 σ2 (q + 1 + 1) 8 (len := 8) rfl (by decide)
  obtain ⟨σ4, e1, e2, e3⟩ := ptA (x := q + 1 + 1) (k := 2) ((d3 q (by omega)).trans c2) (Nat.le_of_ble_eq_true rfl)
  obtain ⟨σ5, f1, f2, f3⟩ := mkI 1 σ4 (q + 1 + 1 + 1) 8 (len := 8) rfl (by decide)
  obtain ⟨σ6, g1, g2, g3⟩ := ptA (x := q + 1 + 1 + 1) (k := 3) ((f3 q (by omega)).trans e2) (Nat.le_of_ble_eq_true rfl)
  refine ⟨σ6, ?_, ⟨g2, fun _ => 0, fun _ => 0, fun _ => 0, by rw [g3 _ (by omega), f3 _ (by omega), e3 _ (by omega), d3 _ (by omega), c3 _ (by omega)]; exact a2, by rw [g3 _ (by omega), f3 _ (by omega), e3 _ (by omega)]; exact d2, by rw [g3 _ (by omega)]; exact f2, fun k hk _ => absurd hk (Nat.not_lt_zero k)⟩, fun x hx => by rw [g3 _ (by omega), f3 _ (by omega), e3 _ (by omega), d3 _ (by omega), c3 _ (by omega), a3 _ (by omega)]⟩
  unfold m_X2_init
  rw [a1, b2_some, c1, Option.bind_some, d1, b2_some, e1, Option.bind_some, f1, b2_some, g1, Option.bind_some]
theorem X5_init {N q : Nat} {σ : zS} (h : σ q = some (.inr (5, [.null, .null, .int 0, .int 0]))) : ∃ σ', m_X5_init N σ (q + 1) q = some (σ', q + 5) ∧ Tb σ' q zr0 zg1 ∧ ∀ x, (x < q ∨ q + 5 ≤ x) → σ' x = σ x := by
  obtain ⟨σ1, a1, a2, a3⟩ := mkO σ (q + 1) 3 [.int 0, .int 0, .int 0, .int 0, .int 0, .null, .null]
  obtain ⟨σ2, c1, c2, c3⟩ := X3_init (N := N) a2
  obtain ⟨σ3, d1, d2, d3⟩ := ptA (x := q + 1) (k := 0) ((c3 q (by omega)).trans ((a3 q (by omega)).trans h)) (Nat.le_of_ble_eq_true rfl)
  obtain ⟨σ4, e1, e2, e3⟩ := mkI 1 σ3 (q + 1 + 3) 1000 (len := 1000) rfl (by decide)
  obtain ⟨σ5, f1, f2, f3⟩ := ptA (x := q + 1 + 3) (k := 1) ((e3 q (by omega)).trans d2) (Nat.le_of_ble_eq_true rfl)
  refine ⟨σ5, ?_, ⟨f2, c2.keep (fun x _ _ => by rw [f3 _ (by omega), e3 _ (by omega), d3 _ (by omega)]), fun _ => 0, by rw [f3 _ (by omega)]; exact e2, fun x _ => (by decide : (0 : Int32) = 1 - 1)⟩, fun x hx => by rw [f3 _ (by omega), e3 _ (by omega), d3 _ (by omega), c3 _ (by omega), a3 _ (by omega)]⟩
  unfold m_X5_init
  rw [a1, b2_some, c1, b2_some, d1, Option.bind_some, e1, b2_some, f1, Option.bind_some]
def Sv (σ : zS) (a i : Nat) : Prop := σ a = some (.inr (4, [.ref (a + 1), .ref (a + 2), .int 0, .int 0])) ∧ (∃ f : Nat → Option Nat, σ (a + 1) = some (.inl (3, 6, .inr (.inr (.inr (.inr f))))) ∧ ∀ j, j < i → f j = some (a + 6 + 5 * j)) ∧ Lo σ (a + 2) 0 (fun _ _ => 0) ∧ ∀ j, j < i → Tb σ (a + 6 + 5 * j) zr0 zg1
theorem X4_step {α : Type} {N a i q : Nat} {k : Int32} {σ : zS} (h : Sv σ a i) (hi : i < 6) (hq : q = a + 6 + 5 * i) (hk : k = nI i) : ∃ σ', (∀ K : zS → Nat → Option α, ((gA σ 4 0 a).bind fun a14 => b2 (nO σ q 5 [.null, .null, .int 0, .int 0]) fun σ16 n17 => b2 (m_X5_init N σ16 n17 q) fun σ19 n20 => (uA 3 5 σ19 a14 k q).bind fun σ22 => K σ22 n20) = K σ' (q + 5)) ∧ Sv σ' a (i + 1) ∧ ∀ x, (x < a ∨ a + 36 ≤ x) → σ' x = σ x := by
  obtain ⟨h1, ⟨f, h2, h3⟩, h4, h5⟩ := h
  obtain ⟨σ1, a1, a2, a3⟩ := mkO σ q 5 [.null, .null, .int 0, .int 0]
  obtain ⟨σ2, c1, c2, c3⟩ := X5_init (N := N) a2
  obtain ⟨σ3, d1, d2, d3⟩ := ptU (x := k) (k := i) ((c3 (a + 1) (by omega)).trans ((a3 (a + 1) (by omega)).trans h2)) c2.1 hk hi (by decide)
  refine ⟨σ3, fun K => ?_, ⟨by rw [d3 _ (by omega), c3 _ (by omega), a3 _ (by omega)]; exact h1, ⟨_, d2, fun j hj => ?_⟩, h4.keep (fun x _ _ => by rw [d3 _ (by omega), c3 _ (by omega), a3 _ (by omega)]), fun j hj => ?_⟩, fun x hx => by rw [d3 _ (by omega), c3 _ (by omega), a3 _ (by omega)]⟩
  · rw [gA_at h1 rfl, Option.bind_some, a1, b2_some, c1, b2_some, d1, Option.bind_some]
  · by_cases c : j = i
    · rw [c, va_same, hq]
    · rw [va_ne _ _ c]
      exact h3 j (by omega)
  · by_cases c : j = i
    · rw [c, ← hq]
      exact c2.keep (fun x _ _ => d3 _ (by omega))
    · exact (h5 j (by omega)).keep (fun x _ _ => by rw [d3 _ (by omega), c3 _ (by omega), a3 _ (by omega)])
theorem X4_init {N a : Nat} {σ : zS} (h : σ a = some (.inr (4, [.null, .null, .int 0, .int 0]))) : ∃ σ', m_X4_init N σ (a + 1) a = some (σ', a + 36) ∧ St σ' a zs0 ∧ ∀ x, (x < a ∨ a + 36 ≤ x) → σ' x = σ x := by
  obtain ⟨σ1, a1, a2, a3⟩ := mkA 3 σ (a + 1) 6 (len := 6) rfl (by decide)
  obtain ⟨σ2, c1, c2, c3⟩ := ptA (x := a + 1) (k := 0) ((a3 a (by omega)).trans h) (Nat.le_of_ble_eq_true rfl)
  obtain ⟨σ3, d1, d2, d3⟩ := mkO σ2 (a + 1 + 1) 2 [.int 0, .null, .null, .null]
  obtain ⟨σ4, e1, e2, e3⟩ := X2_init (N := N) d2
  obtain ⟨σ5, f1, f2, f3⟩ := ptA (x := a + 1 + 1) (k := 1) ((e3 a (by omega)).trans ((d3 a (by omega)).trans c2)) (Nat.le_of_ble_eq_true rfl)
  have v0 : Sv σ5 a 0 := ⟨f2, ⟨_, by rw [f3 _ (by omega), e3 _ (by omega), d3 _ (by omega), c3 _ (by omega)]; exact a2, fun j hj => absurd hj (Nat.not_lt_zero j)⟩, Lo.keep e2 (fun x _ _ => f3 _ (by omega)), fun j hj => absurd hj (Nat.not_lt_zero j)⟩
  obtain ⟨σ6, k0, v1, o0⟩ := X4_step (α := zS × Nat) (N := N) (q := a + 1 + 1 + 4) (k := 0) v0 (by decide) (by omega) rfl
  obtain ⟨σ7, k1, v2, o1⟩ := X4_step (α := zS × Nat) (N := N) (q := a + 1 + 1 + 4 + 5) (k := 1) v1 (by decide) (by omega) rfl
  obtain ⟨σ8, k2, v3, o2⟩ := X4_step (α := zS × Nat) (N := N) (q := a + 1 + 1 + 4 + 5 + 5) (k := 2) v2 (by decide) (by omega) rfl
  obtain ⟨σ9, k3, v4, o3⟩ := X4_step (α := zS × Nat) (N := N) (q := a + 1 + 1 + 4 + 5 + 5 + 5) (k := 3) v3 (by decide) (by omega) rfl
  obtain ⟨σ10, k4, v5, o4⟩ := X4_step (α := zS × Nat) (N := N) (q := a + 1 + 1 + 4 + 5 + 5 + 5 + 5) (k := 4) v4 (by decide) (by omega) rfl
  obtain ⟨σ11, k5, v6, o5⟩ := X4_step (α := zS × Nat) (N := N) (q := a + 1 + 1 + 4 + 5 + 5 + 5 + 5 + 5) (k := 5) v5 (by decide) (by omega) rfl
  obtain ⟨g1, ⟨f, g2, g3⟩, g4, g5⟩ := v6
  refine ⟨σ11, ?_, ⟨g1, ⟨f, g2, g3⟩, g4, fun i hi => ⟨_, _, g5 i hi⟩, fun i hi => absurd hi (Nat.not_lt_zero i)⟩, fun x hx => by rw [o5 x hx, o4 x hx, o3 x hx, o2 x hx, o1 x hx, o0 x hx, f3 _ (by omega), e3 _ (by omega), d3 _ (by omega), c3 _ (by omega), a3 _ (by omega)]⟩
  unfold m_X4_init
  rw [a1, b2_some, c1, Option.bind_some, d1, b2_some, e1, b2_some, f1, Option.bind_some]
  refine (k0 _).trans ?_
  refine (k1 _).trans ?_
  refine (k2 _).trans ?_
  refine (k3 _).trans ?_
  refine (k4 _).trans ?_
  refine (k5 _).trans ?_
  rfl
def Hv (σ : zS) (b i : Nat) : Prop := σ (b + 37) = some (.inr (1, [.ref (b + 38), .int 0])) ∧ (∃ f : Nat → Option Nat, σ (b + 38) = some (.inl (2, 4, .inr (.inr (.inr (.inr f))))) ∧ ∀ j, j < i → f j = some (b + 39 + 36 * j)) ∧ ∀ j, j < i → St σ (b + 39 + 36 * j) zs0
theorem X1_step {α : Type} {N b i q : Nat} {k : Int32} {σ : zS} (h : Hv σ b i) (hi : i < 4) (hq : q = b + 39 + 36 * i) (hk : k = nI i) : ∃ σ', (∀ K : zS → Nat → Option α, ((gA σ 1 0 (b + 37)).bind fun a6 => b2 (nO σ q 4 [.null, .null, .int 0, .int 0]) fun σ8 n9 => b2 (m_X4_init N σ8 n9 q) fun σ11 n12 => (uA 2 4 σ11 a6 k q).bind fun σ14 => K σ14 n12) = K σ' (q + 36)) ∧ Hv σ' b (i + 1) ∧ ∀ x, (x < b + 37 ∨ b + 183 ≤ x) → σ' x = σ x := by
  obtain ⟨h1, ⟨f, h2, h3⟩, h5⟩ := h
  obtain ⟨σ1, a1, a2, a3⟩ := mkO σ q 4 [.null, .null, .int 0, .int 0]
  obtain ⟨σ2, c1, c2, c3⟩ := X4_init (N := N) a2
  obtain ⟨σ3, d1, d2, d3⟩ := ptU (x := k) (k := i) ((c3 (b + 38) (by omega)).trans ((a3 (b + 38) (by omega)).trans h2)) c2.1 hk hi (by decide)
  refine ⟨σ3, fun K => ?_, ⟨by rw [d3 _ (by omega), c3 _ (by omega), a3 _ (by omega)]; exact h1, ⟨_, d2, fun j hj => ?_⟩, fun j hj => ?_⟩, fun x hx => by rw [d3 _ (by omega), c3 _ (by omega), a3 _ (by omega)]⟩
  · rw [gA_at h1 rfl, Option.bind_some, a1, b2_some, c1, b2_some, d1, Option.bind_some]
  · by_cases c : j = i
    · rw [c, va_same, hq]
    · rw [va_ne _ _ c]
      exact h3 j (by omega)
  · by_cases c : j = i
    · rw [c, ← hq]
      exact c2.keep (Nat.zero_le _) (fun x _ _ => d3 _ (by omega))
    · exact (h5 j (by omega)).keep (Nat.zero_le _) (fun x _ _ => by rw [d3 _ (by omega), c3 _ (by omega), a3 _ (by omega)])
theorem X1_init {N b : Nat} {σ : zS} (h : σ (b + 37) = some (.inr (1, [.null, .int 0]))) (H : Nat → AS) : ∃ σ', m_X1_init N σ (b + 37 + 1) (b + 37) = some (σ', b + 183) ∧ Hi σ' b 0 H ∧ ∀ x, (x < b + 37 ∨ b + 183 ≤ x) → σ' x = σ x := by
  obtain ⟨σ1, a1, a2, a3⟩ := mkA 2 σ (b + 37 + 1) 4 (len := 4) rfl (by decide)
  obtain ⟨σ5, f1, f2, f3⟩ := ptA (x := b + 37 + 1) (k := 0) ((a3 (b + 37) (by omega)).trans h) (Nat.le_of_ble_eq_true rfl)
  have v0 : Hv σ5 b 0 := ⟨f2, ⟨_, by rw [f3 _ (by omega)]; exact a2, fun j hj => absurd hj (Nat.not_lt_zero j)⟩, fun j hj => absurd hj (Nat.not_lt_zero j)⟩
  obtain ⟨σ6, k0, v1, o0⟩ := X1_step (α := zS × Nat) (N := N) (q := b + 37 + 1 + 1) (k := 0) v0 (by decide) (by omega) rfl
  obtain ⟨σ7, k1, v2, o1⟩ := X1_step (α := zS × Nat) (N := N) (q := b + 37 + 1 + 1 + 36) (k := 1) v1 (by decide) (by omega) rfl
  obtain ⟨σ8, k2, v3, o2⟩ := X1_step (α := zS × Nat) (N := N) (q := b + 37 + 1 + 1 + 36 + 36) (k := 2) v2 (by decide) (by omega) rfl
  obtain ⟨σ9, k3, v4, o3⟩ := X1_step (α := zS × Nat) (N := N) (q := b + 37 + 1 + 1 + 36 + 36 + 36) (k := 3) v3 (by decide) (by omega) rfl
  obtain ⟨g1, ⟨f, g2, g3⟩, g5⟩ := v4
  refine ⟨σ9, ?_, ⟨g1, f, fun k => k, g2, fun k hk => ⟨hk, g3 k hk⟩, fun j k _ _ e => e, fun k hk => (g5 k hk).sh (Nat.zero_le _), fun k hk => absurd hk (Nat.not_lt_zero k)⟩, fun x hx => by rw [o3 x hx, o2 x hx, o1 x hx, o0 x hx, f3 _ (by omega), a3 _ (by omega)]⟩
  unfold m_X1_init
  rw [a1, b2_some, f1, Option.bind_some]
  refine (k0 _).trans ?_
  refine (k1 _).trans ?_
  refine (k2 _).trans ?_
  refine (k3 _).trans ?_
  rfl
theorem X0_init {N q : Nat} {σ : zS} (h : σ q = some (.inr (0, [.null, .int 0, .int 0]))) : ∃ σ', m_X0_init N σ (q + 1) q = some (σ', q + 2) ∧ Cd σ' q ∧ ∀ x, (x < q ∨ q + 2 ≤ x) → σ' x = σ x := by
  obtain ⟨σ1, a1, a2, a3⟩ := mkI 1 σ (q + 1) 4 (len := 4) rfl (by decide)
  obtain ⟨σ2, c1, c2, c3⟩ := ptA (x := q + 1) (k := 0) ((a3 q (by omega)).trans h) (Nat.le_of_ble_eq_true rfl)
  refine ⟨σ2, ?_, ⟨0, 0, _, c2, by rw [c3 _ (by omega)]; exact a2⟩, fun x hx => by rw [c3 _ (by omega), a3 _ (by omega)]⟩
  unfold m_X0_init
  rw [a1, b2_some, c1, Option.bind_some]
theorem X6_init {N q : Nat} {σ : zS} (h : σ q = some (.inr (6, [.null, .int 0]))) (T : Nat → Int32) : ∃ σ', m_X6_init N σ (q + 1) q = some (σ', q + 2) ∧ Tx σ' q 0 T ∧ ∀ x, (x < q ∨ q + 2 ≤ x) → σ' x = σ x := by
  obtain ⟨σ1, a1, a2, a3⟩ := mkI 0 σ (q + 1) 80 (len := 80) rfl (by decide)
  obtain ⟨σ2, c1, c2, c3⟩ := ptA (x := q + 1) (k := 0) ((a3 q (by omega)).trans h) (Nat.le_of_ble_eq_true rfl)
  refine ⟨σ2, ?_, ⟨c2, _, by rw [c3 _ (by omega)]; exact a2, fun j hj => absurd hj (Nat.not_lt_zero j)⟩, fun x hx => by rw [c3 _ (by omega), a3 _ (by omega)]⟩
  unfold m_X6_init
  rw [a1, b2_some, c1, Option.bind_some]
theorem X7_init {N q : Nat} {σ : zS} (h : σ q = some (.inr (7, [.null, .null, .int 0, .int 0, .int 0, .int 0]))) : ∃ σ', m_X7_init N σ (q + 1) q = some (σ', q + 39) ∧ σ' q = some (.inr (7, [.ref (q + 1), .ref (q + 37), .int 0, .int 0, .int 0, .int 0])) ∧ Sh σ' (q + 1) ∧ Cd σ' (q + 37) ∧ ∀ x, (x < q ∨ q + 39 ≤ x) → σ' x = σ x := by
  obtain ⟨σ1, a1, a2, a3⟩ := mkO σ (q + 1) 4 [.null, .null, .int 0, .int 0]
  obtain ⟨σ2, c1, c2, c3⟩ := X4_init (N := N) a2
  obtain ⟨σ3, d1, d2, d3⟩ := ptA (x := q + 1) (k := 0) ((c3 q (by omega)).trans ((a3 q (by omega)).trans h)) (Nat.le_of_ble_eq_true rfl)
  obtain ⟨σ4, e1, e2, e3⟩ := mkO σ3 (q + 1 + 36) 0 [.null, .int 0, .int 0]
  obtain ⟨σ5, f1, f2, f3⟩ := X0_init (N := N) e2
  obtain ⟨σ6, g1, g2, g3⟩ := ptA (x := q + 1 + 36) (k := 1) ((f3 q (by omega)).trans ((e3 q (by omega)).trans d2)) (Nat.le_of_ble_eq_true rfl)
  refine ⟨σ6, ?_, g2, (c2.sh (Nat.zero_le _)).keep (fun x _ _ => by rw [g3 _ (by omega), f3 _ (by omega), e3 _ (by omega), d3 _ (by omega)]), Cd.keep f2 (fun x _ _ => g3 _ (by omega)), fun x hx => by rw [g3 _ (by omega), f3 _ (by omega), e3 _ (by omega), d3 _ (by omega), c3 _ (by omega), a3 _ (by omega)]⟩
  unfold m_X7_init
  rw [a1, b2_some, c1, b2_some, d1, Option.bind_some, e1, b2_some, f1, b2_some, g1, Option.bind_some]
theorem X8_init {N b : Nat} {σ : zS} (h : σ b = some (.inr (8, [.null, .null, .null, .null, .null, .null]))) (H : Nat → AS) (T : Nat → Int32) : ∃ σ', m_X8_init N σ (b + 1) b = some (σ', b + 229) ∧ CR σ' b zs0 0 H T 0 := by
  obtain ⟨σ1, a1, a2, a3⟩ := mkO σ (b + 1) 4 [.null, .null, .int 0, .int 0]
  obtain ⟨σ2, c1, c2, c3⟩ := X4_init (N := N) a2
  obtain ⟨σ3, d1, d2, d3⟩ := ptA (x := b + 1) (k := 0) ((c3 b (by omega)).trans ((a3 b (by omega)).trans h)) (Nat.le_of_ble_eq_true rfl)
  obtain ⟨σ4, e1, e2, e3⟩ := mkO σ3 (b + 37) 1 [.null, .int 0]
  obtain ⟨σ5, f1, f2, f3⟩ := X1_init (N := N) e2 H
  obtain ⟨σ6, g1, g2, g3⟩ := ptA (x := b + 37) (k := 1) ((f3 b (by omega)).trans ((e3 b (by omega)).trans d2)) (Nat.le_of_ble_eq_true rfl)
  obtain ⟨σ7, i1, i2, i3⟩ := mkO σ6 (b + 183) 6 [.null, .int 0]
  obtain ⟨σ8, j1, j2, j3⟩ := X6_init (N := N) i2 T
  obtain ⟨σ9, k1, k2, k3⟩ := ptA (x := b + 183) (k := 2) ((j3 b (by omega)).trans ((i3 b (by omega)).trans g2)) (Nat.le_of_ble_eq_true rfl)
  obtain ⟨σ10, l1, l2, l3⟩ := mkO σ9 (b + 185) 0 [.null, .int 0, .int 0]
  obtain ⟨σ11, m1, m2, m3⟩ := X0_init (N := N) l2
  obtain ⟨σ12, n1, n2, n3⟩ := ptA (x := b + 185) (k := 3) ((m3 b (by omega)).trans ((l3 b (by omega)).trans k2)) (Nat.le_of_ble_eq_true rfl)
  obtain ⟨σ13, o1, o2, o3⟩ := mkO σ12 (b + 187) 7 [.null, .null, .int 0, .int 0, .int 0, .int 0]
  obtain ⟨σ14, p1, p2, p4, p5, p3⟩ := X7_init (N := N) o2
  obtain ⟨σ15, q1, q2, q3⟩ := ptA (x := b + 187) (k := 4) ((p3 b (by omega)).trans ((o3 b (by omega)).trans n2)) (Nat.le_of_ble_eq_true rfl)
  obtain ⟨σ16, r1, r2, r3⟩ := mkO σ15 (b + 226) 3 [.int 0, .int 0, .int 0, .int 0, .int 0, .null, .null]
  obtain ⟨σ17, s1, s2, s3⟩ := X3_init (N := N) r2
  obtain ⟨σ18, t1, t2, t3⟩ := ptA (x := b + 226) (k := 5) ((s3 b (by omega)).trans ((r3 b (by omega)).trans q2)) (Nat.le_of_ble_eq_true rfl)
  have z15 : ∀ x, x ≠ b → x < b + 226 → σ18 x = σ15 x := fun x h1 h2 => by rw [t3 _ h1, s3 _ (by omega), r3 _ (by omega)]
  have z12 : ∀ x, x ≠ b → x < b + 187 → σ18 x = σ12 x := fun x h1 h2 => by rw [z15 x h1 (by omega), q3 _ h1, p3 _ (by omega), o3 _ (by omega)]
  have z9 : ∀ x, x ≠ b → x < b + 185 → σ18 x = σ9 x := fun x h1 h2 => by rw [z12 x h1 (by omega), n3 _ h1, m3 _ (by omega), l3 _ (by omega)]
  have z6 : ∀ x, x ≠ b → x < b + 183 → σ18 x = σ6 x := fun x h1 h2 => by rw [z9 x h1 (by omega), k3 _ h1, j3 _ (by omega), i3 _ (by omega)]
  have z3 : ∀ x, x ≠ b → x < b + 37 → σ18 x = σ3 x := fun x h1 h2 => by rw [z6 x h1 (by omega), g3 _ h1, f3 _ (by omega), e3 _ (by omega)]
  refine ⟨σ18, ?_, t2, c2.keep (Nat.zero_le _) (fun x _ _ => by rw [z3 x (by omega) (by omega), d3 _ (by omega)]), Hi.keep (fun k hk => absurd hk (Nat.not_lt_zero k)) (Nat.zero_le _) f2 (fun x _ _ => by rw [z6 x (by omega) (by omega), g3 _ (by omega)]), Tx.keep j2 (fun x _ _ => by rw [z9 x (by omega) (by omega), k3 _ (by omega)]), Cd.keep m2 (fun x _ _ => by rw [z12 x (by omega) (by omega), n3 _ (by omega)]), ⟨0, 0, 0, 0, by rw [z15 _ (by omega) (by omega), q3 _ (by omega)]; exact p2⟩, Sh.keep p4 (fun x _ _ => by rw [z15 x (by omega) (by omega), q3 _ (by omega)]), Cd.keep p5 (fun x _ _ => by rw [z15 x (by omega) (by omega), q3 _ (by omega)]), zr0, Sk.keep s2 (fun x _ _ => t3 _ (by omega))⟩
  unfold m_X8_init
  rw [a1, b2_some, show m_X4_init N σ1 (b + 1 + 1) (b + 1) = some (σ2, b + 37) from c1, b2_some, d1, Option.bind_some, e1, b2_some, f1, b2_some, g1, Option.bind_some, i1, b2_some, show m_X6_init N σ7 (b + 183 + 1) (b + 183) = some (σ8, b + 185) from j1, b2_some, k1, Option.bind_some, l1, b2_some, show m_X0_init N σ10 (b + 185 + 1) (b + 185) = some (σ11, b + 187) from m1, b2_some, n1, Option.bind_some, o1, b2_some, show m_X7_init N σ13 (b + 187 + 1) (b + 187) = some (σ14, b + 226) from p1, b2_some, q1, Option.bind_some, r1, b2_some, show m_X3_init N σ16 (b + 226 + 1) (b + 226) = some (σ17, b + 229) from s1, b2_some, t1, Option.bind_some]
theorem X9_init {N M : Nat} {σ : zS} (h : σ M = some (.inr (9, [.null, .null, .null, .null, .null, .null, .int 0, .int 0, .null, .null, .int 0, .int 0, .int 0, .int 0, .int 0]))) (H : Nat → AS) (T : Nat → Int32) : ∃ (σ' : zS) (n' : Nat), m_X9_init N σ (M + 1) M = some (σ', n') ∧ MR σ' M zs0 0 H T 0 ∧ ∀ x, x < M → σ' x = σ x := by
  obtain ⟨τ0, u01, u02, u03⟩ := mkI 1 σ (M + 1) 6165 (len := 6165) rfl (by decide)
  obtain ⟨τ1, w01, w02, w03⟩ := ptA (x := M + 1) (k := 0) ((u03 M (by omega)).trans h) (Nat.le_of_ble_eq_true rfl)
  obtain ⟨τ2, u11, u12, u13⟩ := mkI 1 τ1 (M + 1 + 1) 6165 (len := 6165) rfl (by decide)
  obtain ⟨τ3, w11, w12, w13⟩ := ptA (x := M + 1 + 1) (k := 1) ((u13 M (by omega)).trans w02) (Nat.le_of_ble_eq_true rfl)
  obtain ⟨τ4, u21, u22, u23⟩ := mkI 1 τ3 (M + 1 + 1 + 1) 6165 (len := 6165) rfl (by decide)
  obtain ⟨τ5, w21, w22, w23⟩ := ptA (x := M + 1 + 1 + 1) (k := 2) ((u23 M (by omega)).trans w12) (Nat.le_of_ble_eq_true rfl)
  obtain ⟨τ6, u31, u32, u33⟩ := mkI 1 τ5 (M + 1 + 1 + 1 + 1) 6165 (len := 6165) rfl (by decide)
  obtain ⟨τ7, w31, w32, w33⟩ := ptA (x := M + 1 + 1 + 1 + 1) (k := 3) ((u33 M (by omega)).trans w22) (Nat.le_of_ble_eq_true rfl)
  obtain ⟨τ8, u41, u42, u43⟩ := mkI 1 τ7 (M + 1 + 1 + 1 + 1 + 1) 6165 (len := 6165) rfl (by decide)
  obtain ⟨τ9, w41, w42, w43⟩ := ptA (x := M + 1 + 1 + 1 + 1 + 1) (k := 4) ((u43 M (by omega)).trans w32) (Nat.le_of_ble_eq_true rfl)
  obtain ⟨τ10, u51, u52, u53⟩ := mkI 1 τ9 (M + 1 + 1 + 1 + 1 + 1 + 1) 6165 (len := 6165) rfl (by decide)
  obtain ⟨τ11, w51, w52, w53⟩ := ptA (x := M + 1 + 1 + 1 + 1 + 1 + 1) (k := 5) ((u53 M (by omega)).trans w42) (Nat.le_of_ble_eq_true rfl)
  obtain ⟨τ12, u61, u62, u63⟩ := mkI 1 τ11 (M + 1 + 1 + 1 + 1 + 1 + 1 + 1) 23 (len := 23) rfl (by decide)
  obtain ⟨τ13, w61, w62, w63⟩ := ptA (x := M + 1 + 1 + 1 + 1 + 1 + 1 + 1) (k := 8) ((u63 M (by omega)).trans w52) (Nat.le_of_ble_eq_true rfl)
  obtain ⟨τ14, u71, u72, u73⟩ := mkI 1 τ13 (M + 1 + 1 + 1 + 1 + 1 + 1 + 1 + 1) 80 (len := 80) rfl (by decide)
  obtain ⟨τ15, w71, w72, w73⟩ := ptA (x := M + 1 + 1 + 1 + 1 + 1 + 1 + 1 + 1) (k := 9) ((u73 M (by omega)).trans w62) (Nat.le_of_ble_eq_true rfl)
  have y0 : τ15 (M + 1) = some (.inl (1, 6165, .inl (fun _ => 0))) := by
    rw [w73 _ (by omega), u73 _ (by omega), w63 _ (by omega), u63 _ (by omega), w53 _ (by omega), u53 _ (by omega), w43 _ (by omega), u43 _ (by omega), w33 _ (by omega), u33 _ (by omega), w23 _ (by omega), u23 _ (by omega), w13 _ (by omega), u13 _ (by omega), w03 _ (by omega)]
    exact u02
  have y1 : τ15 (M + 2) = some (.inl (1, 6165, .inl (fun _ => 0))) := by
    rw [w73 _ (by omega), u73 _ (by omega), w63 _ (by omega), u63 _ (by omega), w53 _ (by omega), u53 _ (by omega), w43 _ (by omega), u43 _ (by omega), w33 _ (by omega), u33 _ (by omega), w23 _ (by omega), u23 _ (by omega), w13 _ (by omega)]
    exact u12
  have y2 : τ15 (M + 3) = some (.inl (1, 6165, .inl (fun _ => 0))) := by
    rw [w73 _ (by omega), u73 _ (by omega), w63 _ (by omega), u63 _ (by omega), w53 _ (by omega), u53 _ (by omega), w43 _ (by omega), u43 _ (by omega), w33 _ (by omega), u33 _ (by omega), w23 _ (by omega)]
    exact u22
  have y3 : τ15 (M + 4) = some (.inl (1, 6165, .inl (fun _ => 0))) := by
    rw [w73 _ (by omega), u73 _ (by omega), w63 _ (by omega), u63 _ (by omega), w53 _ (by omega), u53 _ (by omega), w43 _ (by omega), u43 _ (by omega), w33 _ (by omega)]
    exact u32
  have y4 : τ15 (M + 5) = some (.inl (1, 6165, .inl (fun _ => 0))) := by
    rw [w73 _ (by omega), u73 _ (by omega), w63 _ (by omega), u63 _ (by omega), w53 _ (by omega), u53 _ (by omega), w43 _ (by omega)]
    exact u42
  have y5 : τ15 (M + 6) = some (.inl (1, 6165, .inl (fun _ => 0))) := by
    rw [w73 _ (by omega), u73 _ (by omega), w63 _ (by omega), u63 _ (by omega), w53 _ (by omega)]
    exact u52
  have y6 : τ15 (M + 7) = some (.inl (1, 23, .inl (fun _ => 0))) := by
    rw [w73 _ (by omega), u73 _ (by omega), w63 _ (by omega)]
    exact u62
  have y7 : τ15 (M + 8) = some (.inl (1, 80, .inl (fun _ => 0))) := by
    rw [w73 _ (by omega)]
    exact u72
  refine ⟨τ15, M + 1 + 1 + 1 + 1 + 1 + 1 + 1 + 1 + 1, ?_, ⟨0, 0, 0, 0, 0, by decide, w72, ⟨_, y0, rfl, rfl, rfl, fun i hi => absurd hi (Nat.not_lt_zero i), fun k hk => absurd hk (Nat.not_lt_zero k)⟩, ⟨_, y1⟩, fun k hk => ?_, fun k hk => absurd hk (Nat.not_lt_zero k), ⟨_, y6⟩, _, y7, fun j hj => absurd hj (Nat.not_lt_zero j)⟩, fun x hx => by rw [w73 _ (by omega), u73 _ (by omega), w63 _ (by omega), u63 _ (by omega), w53 _ (by omega), u53 _ (by omega), w43 _ (by omega), u43 _ (by omega), w33 _ (by omega), u33 _ (by omega), w23 _ (by omega), u23 _ (by omega), w13 _ (by omega), u13 _ (by omega), w03 _ (by omega), u03 _ (by omega)]⟩
  · unfold m_X9_init
    rw [u01, b2_some, w01, Option.bind_some, u11, b2_some, w11, Option.bind_some, u21, b2_some, w21, Option.bind_some, u31, b2_some, w31, Option.bind_some, u41, b2_some, w41, Option.bind_some, u51, b2_some, w51, Option.bind_some, u61, b2_some, w61, Option.bind_some, u71, b2_some, w71, Option.bind_some]
  · have : k = 0 ∨ k = 1 ∨ k = 2 ∨ k = 3 := by omega
    rcases this with rfl | rfl | rfl | rfl
    · exact ⟨_, y2⟩
    · exact ⟨_, y3⟩
    · exact ⟨_, y4⟩
    · exact ⟨_, y5⟩
theorem WH0 (H : Nat → AS) (T : Nat → Int32) : WH zs0 0 H T 0 := ⟨⟨Nat.zero_le _, Nat.zero_le _, Nat.zero_le _, fun i hi => absurd hi (Nat.not_lt_zero i)⟩, Nat.zero_le _, fun k hk => absurd hk (Nat.not_lt_zero k), Nat.zero_le _, fun j hj => absurd hj (Nat.not_lt_zero j)⟩
theorem pure_main : zPure := by
  intro n0 L xs hL
  obtain ⟨σ1, a1, a2, a3⟩ := mkO (fun _ => none) n0 8 [.null, .null, .null, .null, .null, .null]
  obtain ⟨σ2, c1, c2⟩ := X8_init (N := 8000) a2 (fun _ => zs0) (fun _ => 0)
  obtain ⟨σ3, d1, d2, d3⟩ := mkO σ2 (n0 + 229) 9 [.null, .null, .null, .null, .null, .null, .int 0, .int 0, .null, .null, .int 0, .int 0, .int 0, .int 0, .int 0]
  obtain ⟨σ4, n4, e1, e2, e3⟩ := X9_init (N := 8000) d2 (fun _ => zs0) (fun _ => 0)
  have hW := WH0 (fun _ => zs0) (fun _ => 0)
  have ok : Ok2 σ4 n0 (n0 + 229) := ⟨zs0, 0, _, _, 0, hW, c2.keep hW (fun x _ _ => by rw [e3 x (by omega), d3 x (by omega)]), e2⟩
  obtain ⟨σ5, f1⟩ := law_loop (N := 8000) (xs := xs) (by decide) (Nat.le_refl _) hL 512 0 8000 σ4 (by omega) (by omega) (by omega) ok
  exact ⟨8000, σ1, n0 + 1, σ2, n0 + 229, σ3, n0 + 229 + 1, σ4, n4, σ5, 0, a1, c1, d1, e1, f1⟩
