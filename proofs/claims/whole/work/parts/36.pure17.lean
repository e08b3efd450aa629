/-! Pure, 17: copies of states, the history of the class -/
theorem X2_copyFrom {N q p l0 l : Nat} {σ : zS} {K0 K : Nat → Nat → Int32} (hq : Lo σ q l0 K0) (hp : Lo σ p l K) (hs : p + 4 ≤ q ∨ q + 4 ≤ p) : ∃ σ', m_X2_copyFrom N σ q p = some σ' ∧ Lo σ' q l K ∧ ∀ x, (x < q ∨ q + 4 ≤ x) → σ' x = σ x := by
  obtain ⟨a0, f0, f1, f2, a1, a2, a3, -⟩ := hq
  obtain ⟨b0, g0, g1, g2, b1, b2, b3, b4⟩ := hp
  have c0 : zup σ q (.inr (2, [.int (nI l), .ref (q + 1), .ref (q + 2), .ref (q + 3)])) q = _ := zup_same _ _ _
  generalize hσ : zup σ q (.inr (2, [.int (nI l), .ref (q + 1), .ref (q + 2), .ref (q + 3)])) = σ3 at c0
  have o3 : ∀ x, x ≠ q → σ3 x = σ x := fun x hx => by rw [← hσ, zup_ne _ _ hx]
  have e2 : sI σ 2 0 q (nI l) = some σ3 := by
    rw [sI_at a0 (Nat.le_of_ble_eq_true rfl), ← hσ]
    rfl
  have d0 := (o3 p (by omega)).trans b0
  unfold m_X2_copyFrom
  rw [gI_at b0 rfl, Option.bind_some, e2, Option.bind_some, gA_at d0 rfl, Option.bind_some, gA_at c0 rfl, Option.bind_some, cpI_at (n := 8) (x := 8) ((o3 (p + 1) (by omega)).trans b1) ((o3 (q + 1) (by omega)).trans a1) rfl (by decide) (by decide) (by decide), Option.bind_some]
  have z1 : ∀ e x, x ≠ q + 1 → zup σ3 (q + 1) e x = σ3 x := fun e x hx => zup_ne _ _ hx
  rw [gA_at ((z1 _ p (by omega)).trans d0) rfl, Option.bind_some, gA_at ((z1 _ q (by omega)).trans c0) rfl, Option.bind_some, cpI_at (n := 8) (x := 8) ((z1 _ (p + 2) (by omega)).trans ((o3 (p + 2) (by omega)).trans b2)) ((z1 _ (q + 2) (by omega)).trans ((o3 (q + 2) (by omega)).trans a2)) rfl (by decide) (by decide) (by decide), Option.bind_some]
  have z2 : ∀ σ' e x, x ≠ q + 2 → zup σ' (q + 2) e x = σ' x := fun σ' e x hx => zup_ne _ _ hx
  rw [gA_at ((z2 _ _ p (by omega)).trans ((z1 _ p (by omega)).trans d0)) rfl, Option.bind_some, gA_at ((z2 _ _ q (by omega)).trans ((z1 _ q (by omega)).trans c0)) rfl, Option.bind_some, cpI_at (n := 8) (x := 8) ((z2 _ _ (p + 3) (by omega)).trans ((z1 _ (p + 3) (by omega)).trans ((o3 (p + 3) (by omega)).trans b3))) ((z2 _ _ (q + 3) (by omega)).trans ((z1 _ (q + 3) (by omega)).trans ((o3 (q + 3) (by omega)).trans a3))) rfl (by decide) (by decide) (by decide), Option.bind_some]
  refine ⟨_, rfl, ⟨?_, va_cpy g0 f0 0 0 8, va_cpy g1 f1 0 0 8, va_cpy g2 f2 0 0 8, ?_, ?_, zup_same _ _ _, fun k hk hk8 => ?_⟩, fun x hx => ?_⟩
  · rw [zup_ne _ _ (by omega), zup_ne _ _ (by omega), zup_ne _ _ (by omega)]
    exact c0
  · rw [zup_ne _ _ (by omega), zup_ne _ _ (by omega), zup_same]
  · rw [zup_ne _ _ (by omega), zup_same]
  · rw [cpy_in hk8, cpy_in hk8, cpy_in hk8]
    exact b4 k hk hk8
  · rw [zup_ne _ _ (by omega), zup_ne _ _ (by omega), zup_ne _ _ (by omega), o3 _ (by omega)]
theorem X5_copyFrom {N q p : Nat} {σ : zS} {r0 g0 r g : Nat → Int32} (hq : Tb σ q r0 g0) (hp : Tb σ p r g) (hs : p + 5 ≤ q ∨ q + 5 ≤ p) : ∃ σ', m_X5_copyFrom N σ q p = some σ' ∧ Tb σ' q r g ∧ ∀ x, (x < q ∨ q + 5 ≤ x) → σ' x = σ x := by
  have oq := hq.o
  have op := hp.o
  obtain ⟨a0, a1, f, a2, -⟩ := hq
  obtain ⟨b0, b1, f', b2, b3⟩ := hp
  obtain ⟨σ1, e1, u1⟩ := X3_copyFrom (N := N) a1 b1 (by omega)
  have d0 := (u1.2 q (by omega)).trans a0
  have d1 := (u1.2 p (by omega)).trans b0
  unfold m_X5_copyFrom
  rw [oq.2.1, Option.bind_some, op.2.1, Option.bind_some, oq.2.2.2.2.2, Option.bind_some, e1, Option.bind_some, gA_at d1 rfl, Option.bind_some, gA_at d0 rfl, Option.bind_some, cpI_at (n := 1000) (x := 1000) ((u1.2 (p + 4) (by omega)).trans b2) ((u1.2 (q + 4) (by omega)).trans a2) rfl (by decide) (by decide) (by decide), Option.bind_some]
  have z1 : ∀ e x, x ≠ q + 4 → zup σ1 (q + 4) e x = σ1 x := fun e x hx => zup_ne _ _ hx
  rw [gI_at ((z1 _ p (by omega)).trans d1) rfl, Option.bind_some, sI_at ((z1 _ q (by omega)).trans d0) (Nat.le_of_ble_eq_true rfl), Option.bind_some, gI_at ((zup_ne _ _ (show p ≠ q by omega)).trans ((z1 _ p (by omega)).trans d1)) rfl, Option.bind_some, sI_at (zup_same _ _ _) (Nat.le_of_ble_eq_true rfl), Option.bind_some, zup_zup]
  refine ⟨_, rfl, ⟨?_, u1.1.keep (fun x _ _ => by rw [zup_ne _ _ (by omega), zup_ne _ _ (by omega)]), _, by rw [zup_ne _ _ (by omega), zup_same], fun x hx => ?_⟩, fun x hx => by rw [zup_ne _ _ (by omega), zup_ne _ _ (by omega), u1.2 _ (by omega)]⟩
  · rw [zup_same]
    rfl
  · rw [cpy_in hx]
    exact b3 x hx
theorem St.same {σ : zS} {a : Nat} {s u : AS} (h : St σ a u) (h1 : sM u = sM s) (h2 : sT u = sT s) (h3 : sL u = sL s) (h4 : sK u = sK s) (h5 : ∀ k, k < sM s → sR u k = sR s k ∧ sG u k = sG s k) : St σ a s := by
  obtain ⟨a1, a2, a3, a4, a5⟩ := h
  rw [h1, h2] at a1
  rw [h3, h4] at a3
  refine ⟨a1, a2, a3, a4, fun k hk => ?_⟩
  have := a5 k (by rw [h1]; exact hk)
  rw [(h5 k hk).1, (h5 k hk).2] at this
  exact this
theorem X4_copyL {N a p : Nat} {s : AS} (hM : sM s ≤ 6) (hs : p + 36 ≤ a ∨ a + 36 ≤ p) : ∀ d i n σ u, St σ a u → St σ p s → sM u = sM s → sT u = sT s → (∀ k, k < i → k < sM s → sR u k = sR s k ∧ sG u k = sG s k) → i + d = 6 → d < n → ∃ σ' u', m_X4_copyFrom_L29 N n σ a p (nI i) = some σ' ∧ St σ' a u' ∧ sM u' = sM s ∧ sT u' = sT s ∧ sL u' = sL u ∧ sK u' = sK u ∧ (∀ k, k < sM s → sR u' k = sR s k ∧ sG u' k = sG s k) ∧ ∀ x, (x < a ∨ a + 36 ≤ x) → σ' x = σ x := by
  intro d
  induction d with
  | zero =>
    intro i n σ u hu hp e1 e2 e3 hi hn
    obtain ⟨n, rfl⟩ : ∃ m, n = m + 1 := ⟨n - 1, by omega⟩
    rw [m_X4_copyFrom_L29, if_pos (by rw [show i = 6 by omega]; decide)]
    exact ⟨σ, u, rfl, hu, e1, e2, rfl, rfl, fun k hk => e3 k (by omega) hk, fun _ _ => rfl⟩
  | succ d ih =>
    intro i n σ u hu hp e1 e2 e3 hi hn
    obtain ⟨n, rfl⟩ : ∃ m, n = m + 1 := ⟨n - 1, by omega⟩
    rw [m_X4_copyFrom_L29, if_neg (litge 6 (by omega) (by decide)), hp.o.1, Option.bind_some]
    by_cases c : i < sM s
    · have hiu : i < sM u := by omega
      obtain ⟨σ1, b1, b2, b3⟩ := X5_copyFrom (N := N) (hu.tb hiu) (hp.tb c) (by omega)
      have u1 := hu.put (by omega) hiu b3 b2
      obtain ⟨σ2, u2, c1, c2, c3, c4, c5, c6, c7, c8⟩ := ih (i + 1) n σ1 _ u1 (hp.keep hM (fun x _ _ => b3 x (by omega))) e1 e2 (fun k hk hkM => by
        by_cases ck : k = i
        · subst ck
          rw [setT_R, setT_G]
          exact ⟨rfl, rfl⟩
        · rw [setT_R' _ _ _ _ _ ck, setT_G' _ _ _ _ _ ck]
          exact e3 k (by omega) hkM) (by omega) (by omega)
      rw [hp.find_in hM c, Option.bind_some, Option.elim_some, hu.o.1, Option.bind_some, hu.find_in (by omega) hiu, Option.bind_some, Option.elim_some, (hu.tb hiu).o.1, Option.bind_some, b1, Option.bind_some, Option.bind_some, nI_1, c1]
      exact ⟨σ2, u2, rfl, c2, c3, c4, c5, c6, c7, fun x hx => by rw [c8 x hx, b3 x (by omega)]⟩
    · obtain ⟨σ2, u2, c1, c2, c3, c4, c5, c6, c7, c8⟩ := ih (i + 1) n σ u hu hp e1 e2 (fun k hk hkM => e3 k (by omega) hkM) (by omega) (by omega)
      rw [hp.find_out (Or.inr (nI_le (by omega) (by omega))), Option.bind_some, Option.elim_none, hu.o.1, Option.bind_some, hu.find_out (Or.inr (nI_le (by omega) (by omega))), Option.bind_some, Option.elim_none, Option.bind_some, nI_1, c1]
      exact ⟨σ2, u2, rfl, c2, c3, c4, c5, c6, c7, c8⟩
theorem X4_copyFrom {N a p : Nat} {σ : zS} {s : AS} (hN : 50 < N) (hM : sM s ≤ 6) (hs : p + 36 ≤ a ∨ a + 36 ≤ p) (hq : Sh σ a) (hp : St σ p s) : ∃ σ', m_X4_copyFrom N σ a p = some σ' ∧ St σ' a s ∧ ∀ x, (x < a ∨ a + 36 ≤ x) → σ' x = σ x := by
  obtain ⟨u, hu, a0, ⟨f, a1, a2⟩, a3, a4, -⟩ := hq
  have q3 : zup σ a (.inr (4, [.ref (a + 1), .ref (a + 2), .int (nI (sM s)), .int (nI (sT s))])) a = _ := zup_same _ _ _
  generalize hσ : zup σ a (.inr (4, [.ref (a + 1), .ref (a + 2), .int (nI (sM s)), .int (nI (sT s))])) = σ3 at q3
  have o3 : ∀ x, x ≠ a → σ3 x = σ x := fun x hx => by rw [← hσ, zup_ne _ _ hx]
  obtain ⟨σ0, e2, q0, o0⟩ : ∃ σ0, sI σ 4 2 a (nI (sM s)) = some σ0 ∧ sI σ0 4 3 a (nI (sT s)) = some σ3 ∧ ∀ x, x ≠ a → σ0 x = σ x := by
    rw [sI_at a0 (Nat.le_of_ble_eq_true rfl)]
    refine ⟨_, rfl, ?_, fun x hx => zup_ne _ _ hx⟩
    rw [sI_at (zup_same _ _ _) (Nat.le_of_ble_eq_true rfl), zup_zup, ← hσ]
    rfl
  have p3 : St σ3 p s := hp.keep hM (fun x _ _ => o3 x (by omega))
  have p0 : St σ0 p s := hp.keep hM (fun x _ _ => o0 x (by omega))
  obtain ⟨σ4, b1, b2, b3⟩ := X2_copyFrom (N := N) (a3.keep (σ' := σ3) (fun x _ _ => o3 x (by omega))) p3.2.2.1 (by omega)
  have p4 : St σ4 p s := p3.keep hM (fun x _ _ => b3 x (by omega))
  obtain ⟨RG, hRG⟩ := Classical.axiomOfChoice (show ∀ k : Nat, ∃ rg : (Nat → Int32) × (Nat → Int32), k < 6 → Tb σ4 (a + 6 + 5 * k) rg.1 rg.2 from fun k => by
    by_cases c : k < 6
    · obtain ⟨r, g, h⟩ := a4 k c
      exact ⟨(r, g), fun _ => h.keep (fun x _ _ => by rw [b3 _ (by omega), o3 _ (by omega)])⟩
    · exact ⟨(fun _ => 0, fun _ => 0), fun q => absurd q c⟩)
  have s4 : St σ4 a (sM s, sT s, sL s, fun k => (RG k).1, fun k => (RG k).2, sK s) := ⟨by rw [b3 _ (by omega)]; exact q3, ⟨f, by rw [b3 _ (by omega), o3 _ (by omega)]; exact a1, a2⟩, b2, fun k hk => ⟨_, _, hRG k hk⟩, fun k hk => hRG k (by have : k < sM s := hk; omega)⟩
  obtain ⟨σ5, u5, c1, c2, c3, c4, c5, c6, c7, c8⟩ := X4_copyL (N := N) hM hs 6 0 N σ4 _ s4 p4 rfl rfl (fun k hk => by omega) rfl (by omega)
  unfold m_X4_copyFrom
  rw [hp.o.2.2.2.1, Option.bind_some, e2, Option.bind_some, p0.o.2.2.2.2, Option.bind_some, q0, Option.bind_some, gA_at q3 rfl, Option.bind_some, p3.o.2.2.1, Option.bind_some, isO_at ((o3 (a + 2) (by omega)).trans a3.1), Option.bind_some, b1, Option.bind_some, show (0 : Int32) = nI 0 from rfl, c1, Option.bind_some]
  exact ⟨σ5, rfl, c2.same c3 c4 c5 c6 c7, fun x hx => by rw [c8 x hx, b3 x (by omega), o3 x (by omega)]⟩
theorem St.sh {σ : zS} {a : Nat} {s : AS} (h : St σ a s) (hM : sM s ≤ 6) : Sh σ a := ⟨s, hM, h⟩
theorem Sh.obj {σ : zS} {a : Nat} (h : Sh σ a) : ∃ fs, σ a = some (.inr (4, fs)) := by
  obtain ⟨u, -, h1, -⟩ := h
  exact ⟨_, h1⟩
-- the history
def recH (n : Nat) (H : Nat → AS) (s : AS) : Nat → AS := if n = 4 then (fun k => if k = 3 then s else H (k + 1)) else fun k => if k = n then s else H k
theorem uA_at {σ : zS} {q n k v : Nat} {f : Nat → Option Nat} {fs : List Value} {x : Int32} (h : σ q = some (.inl (2, n, .inr (.inr (.inr (.inr f)))))) (hv : σ v = some (.inr (4, fs))) (hx : x = nI k) (hk : k < n) (hn : n < 2 ^ 31) : uA 2 4 σ q x v = some (zup σ q (.inl (2, n, .inr (.inr (.inr (.inr (va_up f k (some v)))))))) := by
  subst hx
  unfold uA
  rw [h, hv]
  dsimp only
  rw [if_pos ⟨rfl, rfl, by rw [nI_clamp (by omega)]; exact fun q => q.elim (nI_pos (by omega)) (by omega)⟩, nI_clamp (by omega)]
theorem va_same {α : Type} (f : Nat → α) (k : Nat) (v : α) : va_up f k v k = v := by unfold va_up; exact if_pos rfl
theorem va_ne {α : Type} (f : Nat → α) {k j : Nat} (v : α) (h : j ≠ k) : va_up f k v j = f j := by unfold va_up; exact if_neg h
theorem X1_dropL {N q : Nat} {fs : List Value} {v1 : Nat} (g0 : fs[0]? = some (.ref (q + 1))) : ∀ d k n (σ : zS) (f : Nat → Option Nat), σ q = some (.inr (1, fs)) → σ (q + 1) = some (.inl (2, 4, .inr (.inr (.inr (.inr f))))) → (∀ j, j < 4 → ∃ y fs', f j = some y ∧ y ≠ q + 1 ∧ σ y = some (.inr (4, fs'))) → k + d = 4 → 1 ≤ k → d < n → ∃ f', m_X1_dropOldest_L9 N n σ q v1 (nI k) = some (zup σ (q + 1) (.inl (2, 4, .inr (.inr (.inr (.inr f')))))) ∧ (∀ j, j + 1 < k → f' j = f j) ∧ (∀ j, k ≤ j + 1 → j < 3 → f' j = f (j + 1)) ∧ f' 3 = f 3 := by
  intro d
  induction d with
  | zero =>
    intro k n σ f h h1 h2 hk hk1 hn
    obtain ⟨n, rfl⟩ : ∃ m, n = m + 1 := ⟨n - 1, by omega⟩
    rw [m_X1_dropOldest_L9, if_pos (by rw [show k = 4 by omega]; decide)]
    exact ⟨f, by rw [zup_id h1], fun _ _ => rfl, fun j h1 h2 => by omega, rfl⟩
  | succ d ih =>
    intro k n σ f h h1 h2 hk hk1 hn
    obtain ⟨n, rfl⟩ : ∃ m, n = m + 1 := ⟨n - 1, by omega⟩
    obtain ⟨y, fs', hy, hyq, hyo⟩ := h2 k (by omega)
    obtain ⟨f', e1, e2, e3, e4⟩ := ih (k + 1) n (zup σ (q + 1) (.inl (2, 4, .inr (.inr (.inr (.inr (va_up f (k - 1) (some y)))))))) (va_up f (k - 1) (some y)) (by rw [zup_ne _ _ (by omega)]; exact h) (zup_same _ _ _) (fun j hj => by
      by_cases c : j = k - 1
      · rw [c, va_same]
        exact ⟨y, fs', rfl, hyq, by rw [zup_ne _ _ hyq]; exact hyo⟩
      · rw [va_ne _ _ c]
        obtain ⟨z, fz, a1, a2, a3⟩ := h2 j hj
        exact ⟨z, fz, a1, a2, by rw [zup_ne _ _ a2]; exact a3⟩) (by omega) (by omega) (by omega)
    rw [zup_zup] at e1
    rw [m_X1_dropOldest_L9, if_neg (litge 4 (by omega) (by decide)), gA_at h g0, Option.bind_some, Option.bind_some, aA_at h1 rfl (by omega) (by decide) hy, Option.bind_some, show (1 : Int32) = nI 1 from rfl, pk_sub hk1, uA_at h1 hyo rfl (by omega) (by decide), Option.bind_some, Option.bind_some, nI_add, e1]
    refine ⟨f', rfl, fun j hj => ?_, fun j h1 h2 => ?_, ?_⟩
    · rw [e2 j (by omega), va_ne _ _ (by omega)]
    · by_cases c : j = k - 1
      · rw [e2 j (by omega), c, va_same, show k - 1 + 1 = k by omega, hy]
      · rw [e3 j (by omega) h2, va_ne _ _ (by omega)]
    · rw [e4, va_ne _ _ (by omega)]
theorem X1_drop {N : Nat} {σ : zS} {b : Nat} {H : Nat → AS} (hN : 50 < N) (h : Hi σ b 4 H) (hH : ∀ k, k < 4 → WS (H k)) : ∃ σ', m_X1_dropOldest N σ (b + 37) = some σ' ∧ Hi σ' b 3 (fun k => H (k + 1)) ∧ ∀ x, (x < b + 37 ∨ b + 39 ≤ x) → σ' x = σ x := by
  obtain ⟨h1, f, p, h2, h3, h4, h5, h6⟩ := h
  have hp : ∀ j, j < 4 → ∃ y fs', f j = some y ∧ y ≠ b + 37 + 1 ∧ σ y = some (.inr (4, fs')) := fun j hj => by
    obtain ⟨fs', e⟩ := (h5 (p j) (h3 j hj).1).obj
    exact ⟨_, fs', (h3 j hj).2, by omega, e⟩
  obtain ⟨f1, a1, a2, a3, a4⟩ := X1_dropL (N := N) (q := b + 37) (v1 := b + 39 + 36 * p 0) (fs := [.ref (b + 38), .int (nI 4)]) rfl 3 1 N σ f h1 h2 hp rfl (by omega) (by omega)
  obtain ⟨fs0, e0⟩ := (h5 (p 0) (h3 0 (by omega)).1).obj
  have z1 : ∀ e x, x ≠ b + 37 + 1 → zup σ (b + 37 + 1) e x = σ x := fun e x hx => zup_ne _ _ hx
  unfold m_X1_dropOldest
  rw [gA_at h1 rfl, Option.bind_some, aA_at h2 (k := 0) (x := 0) rfl (by decide) (by decide) (h3 0 (by omega)).2, Option.bind_some, show m_X1_dropOldest_L9 N N σ (b + 37) (b + 39 + 36 * p 0) 1 = _ from a1, Option.bind_some, gA_at ((z1 _ (b + 37) (by omega)).trans h1) rfl, Option.bind_some, uA_at (k := 3) (x := 3) (zup_same σ (b + 37 + 1) _) ((z1 _ _ (by omega)).trans e0) rfl (by decide) (by decide), Option.bind_some, zup_zup, gI_at ((z1 _ (b + 37) (by omega)).trans h1) rfl, Option.bind_some, sI_at ((z1 _ (b + 37) (by omega)).trans h1) (Nat.le_of_ble_eq_true rfl), Option.bind_some]
  have hk : ∀ k x, k < 4 → (b + 39 + 36 * k ≤ x) → x < b + 39 + 36 * k + 36 → zup (zup σ (b + 37 + 1) (.inl (2, 4, .inr (.inr (.inr (.inr (va_up f1 3 (some (b + 39 + 36 * p 0))))))))) (b + 37) (.inr (1, ([.ref (b + 38), .int (nI 4)] : List Value).set 1 (.int (nI 4 - 1)))) x = σ x := fun k x hk h1 h2 => by rw [zup_ne _ _ (by omega), zup_ne _ _ (by omega)]
  refine ⟨_, rfl, ⟨by rw [zup_same]; rfl, va_up f1 3 (some (b + 39 + 36 * p 0)), fun k => if k = 3 then p 0 else p (k + 1), by rw [zup_ne _ _ (by omega)]; exact zup_same _ _ _, fun k hk4 => ?_, fun j k hj hk4 e => ?_, fun k hk4 => (h5 k hk4).keep (fun x h1 h2 => hk k x hk4 h1 h2), fun k hk3 => ?_⟩, fun x hx => by rw [zup_ne _ _ (by omega), zup_ne _ _ (by omega)]⟩
  · dsimp only
    by_cases c : k = 3
    · subst c
      rw [va_same, if_pos rfl]
      exact ⟨(h3 0 (by omega)).1, rfl⟩
    · rw [va_ne _ _ c, if_neg c, a3 k (by omega) (by omega)]
      exact h3 (k + 1) (by omega)
  · dsimp only at e
    by_cases c : j = 3
    · by_cases c' : k = 3
      · omega
      · rw [if_pos c, if_neg c'] at e
        have := h4 0 (k + 1) (by omega) (by omega) e
        omega
    · by_cases c' : k = 3
      · rw [if_neg c, if_pos c'] at e
        have := h4 (j + 1) 0 (by omega) (by omega) e
        omega
      · rw [if_neg c, if_neg c'] at e
        have := h4 (j + 1) (k + 1) (by omega) (by omega) e
        omega
  · dsimp only
    rw [if_neg (by omega)]
    exact (h6 (k + 1) (by omega)).keep (hH (k + 1) (by omega)).1 (fun x h1 h2 => hk (p (k + 1)) x (h3 (k + 1) (by omega)).1 h1 h2)
theorem X1_put {N : Nat} {σ : zS} {b n : Nat} {s : AS} {H : Nat → AS} (hN : 50 < N) (hn : n < 4) (h : Hi σ b n H) (hH : ∀ k, k < n → WS (H k)) (hs : St σ (b + 1) s) (hW : WS s) : ∃ σ', ((gI σ 1 1 (b + 37)).bind fun x10 => (isO σ 1 (b + 37)).bind fun u12 => (m_X1_slotAt N σ (b + 37) x10).bind fun r15 => Option.elim r15 (some σ) fun a16 => (isO σ 4 a16).bind fun u17 => (m_X4_copyFrom N σ a16 (b + 1)).bind fun σ20 => (gI σ20 1 1 (b + 37)).bind fun x21 => (sI σ20 1 1 (b + 37) (x21 + 1)).bind fun σ23 => some σ23) = some σ' ∧ Hi σ' b (n + 1) (fun k => if k = n then s else H k) ∧ ∀ x, (x < b + 37 ∨ b + 183 ≤ x) → σ' x = σ x := by
  obtain ⟨h1, f, p, h2, h3, h4, h5, h6⟩ := h
  have hp := h3 n hn
  obtain ⟨σ1, a1, a2, a3⟩ := X4_copyFrom (N := N) (a := b + 39 + 36 * p n) (p := b + 1) hN hW.1 (by omega) (h5 (p n) hp.1) hs
  obtain ⟨fs0, e0⟩ := (h5 (p n) hp.1).obj
  have q1 := (a3 (b + 37) (by omega)).trans h1
  unfold m_X1_slotAt
  rw [gI_at h1 rfl, Option.bind_some, isO_at h1, Option.bind_some, if_neg (nI_pos (by omega)), if_neg (litge 4 hn (by decide)), gA_at h1 rfl, Option.bind_some, aA_at h2 rfl hn (by decide) hp.2, Option.bind_some, Option.bind_some, Option.elim_some, isO_at e0, Option.bind_some, a1, Option.bind_some, gI_at q1 rfl, Option.bind_some, sI_at q1 (Nat.le_of_ble_eq_true rfl), Option.bind_some, nI_1]
  refine ⟨_, rfl, ⟨by rw [zup_same]; rfl, f, p, by rw [zup_ne _ _ (by omega), a3 _ (by omega)]; exact h2, h3, h4, fun k hk => ?_, fun k hk => ?_⟩, fun x hx => by rw [zup_ne _ _ (by omega), a3 _ (by omega)]⟩
  · by_cases c : k = p n
    · rw [c]
      exact (a2.keep (σ' := zup σ1 (b + 37) _) hW.1 (fun x _ _ => zup_ne _ _ (by omega))).sh hW.1
    · exact (h5 k hk).keep (fun x _ _ => by rw [zup_ne _ _ (by omega), a3 _ (by omega)])
  · dsimp only
    by_cases c : k = n
    · rw [if_pos c, c]
      exact a2.keep hW.1 (fun x _ _ => zup_ne _ _ (by omega))
    · rw [if_neg c]
      have hpk := (h3 k (by omega)).1
      have hne : p k ≠ p n := fun q => c (h4 k n (by omega) hn q)
      exact (h6 k (by omega)).keep (hH k (by omega)).1 (fun x _ _ => by rw [zup_ne _ _ (by omega), a3 _ (by omega)])
theorem X1_record {N : Nat} {σ : zS} {b n : Nat} {s : AS} {H : Nat → AS} (hN : 50 < N) (hn : n ≤ 4) (h : Hi σ b n H) (hH : ∀ k, k < n → WS (H k)) (hs : St σ (b + 1) s) (hW : WS s) : ∃ σ', m_X1_record N σ (b + 37) (b + 1) = some σ' ∧ Hi σ' b (min (n + 1) 4) (recH n H s) ∧ ∀ x, (x < b + 37 ∨ b + 183 ≤ x) → σ' x = σ x := by
  unfold m_X1_record
  rw [gI_at h.1 rfl, Option.bind_some]
  by_cases c : n = 4
  · subst c
    obtain ⟨σ1, a1, a2, a3⟩ := X1_drop (N := N) hN h hH
    obtain ⟨σ2, b1, b2, b3⟩ := X1_put (N := N) hN (by omega) a2 (fun k hk => hH (k + 1) (by omega)) (hs.keep hW.1 (fun x _ _ => a3 x (by omega))) hW
    rw [if_neg (show ¬ nI 4 < 4 by decide), isO_at h.1, Option.bind_some, a1, Option.bind_some, Option.bind_some, b1]
    refine ⟨σ2, rfl, ?_, fun x hx => by rw [b3 x hx, a3 x (by omega)]⟩
    unfold recH
    rw [if_pos rfl]
    exact b2
  · obtain ⟨σ2, b1, b2, b3⟩ := X1_put (N := N) hN (by omega) h hH hs hW
    rw [if_pos (ltlit 4 (by omega) (by decide)), Option.bind_some, b1]
    refine ⟨σ2, rfl, ?_, b3⟩
    unfold recH
    rw [if_neg c, Nat.min_eq_left (by omega)]
    exact b2
