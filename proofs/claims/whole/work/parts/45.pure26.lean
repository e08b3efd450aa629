/-! Pure, 26: the law's loop -/
def Ok2 (σ : zS) (b M : Nat) : Prop := ∃ (s : AS) (n : Nat) (H : Nat → AS) (T : Nat → Int32) (len : Nat), WH s n H T len ∧ CR σ b s n H T len ∧ MR σ M s n H T len
theorem sx_at {L j : Nat} {xs : Nat → Int32} {x : Int32} (hx : x = nI j) (hj : j < L) (hL : L ≤ 2560) : sx L xs x = some (xs j) := by
  subst hx
  unfold sx
  rw [nI_clamp (by omega), if_pos]
  intro q
  rcases q with q | q
  · exact nI_pos (by omega) q
  · omega
theorem law_end {L j : Nat} (hL : L ≤ 2560) (hj : j < 20000) : nI L - 5 < nI j ↔ L < j + 5 := by
  rw [Int32.lt_iff_toInt_lt, show (5 : Int32) = nI 5 from rfl, pk_sub_toInt (by omega) (by decide), nI_toInt (by omega)]
  omega
theorem st_table {N b M L j n : Nat} {xs : Nat → Int32} {σ : zS} (hN : 7000 < N) (hb : b + 229 ≤ M) (hL : L ≤ 2560) (hj : j + 5 ≤ L) (hO : Ok2 σ b M) (hc : xs j &&& 31 = 0) : ∃ σ', Ok2 σ' b M ∧ ∀ v0, m_L_law_L18 L xs N (n + 1) σ v0 b M (nI j) = m_L_law_L18 L xs N n σ' v0 b M (nI (j + 5)) := by
  obtain ⟨s, n0, H, T, len, hW, hC, hR⟩ := hO
  have hend : ¬ nI L - 5 < nI j := fun q => by
    have := (law_end hL (by omega)).mp q
    omega
  have s0 : sx L xs (nI j) = some (xs j) := sx_at rfl (by omega) hL
  have s1 : sx L xs (nI j + 1) = some (xs (j + 1)) := sx_at (nI_add j 1) (by omega) hL
  have s2 : sx L xs (nI j + 2) = some (xs (j + 2)) := sx_at (nI_add j 2) (by omega) hL
  have e5 : nI j + 5 = nI (j + 5) := nI_add j 5
  obtain ⟨y, σ1, σ', s', n', H', T', len', h1, h5, h2, h6, h7, h8⟩ := (op_table hN hb hW hC hR (xs (j + 1)) (xs (j + 2))).t
  have h1' : m_X8_table N σ b (xs (j + 1)) (xs (j + 2)) = some (y, σ1) := h1
  have h2' : m_X9_table N σ1 M (xs (j + 1)) (xs (j + 2)) = some (y, σ') := h2
  refine ⟨σ', ⟨s', n', H', T', len', h6, h7, h8⟩, fun v0 => ?_⟩
  rw [m_L_law_L18, if_neg hend, s0, Option.bind_some, Option.bind_some, if_pos hc, s1, Option.bind_some, s2, Option.bind_some, hC.o.1, Option.bind_some, h1', b2_some, Option.bind_some, Option.bind_some, h5, Option.bind_some, h2', b2_some, if_pos rfl, Option.bind_some, e5]
theorem st_add {N b M L j n : Nat} {xs : Nat → Int32} {σ : zS} (hN : 7000 < N) (hb : b + 229 ≤ M) (hL : L ≤ 2560) (hj : j + 5 ≤ L) (hO : Ok2 σ b M) (hc : xs j &&& 31 = 1) : ∃ σ', Ok2 σ' b M ∧ ∀ v0, m_L_law_L18 L xs N (n + 1) σ v0 b M (nI j) = m_L_law_L18 L xs N n σ' v0 b M (nI (j + 5)) := by
  obtain ⟨s, n0, H, T, len, hW, hC, hR⟩ := hO
  have hend : ¬ nI L - 5 < nI j := fun q => by
    have := (law_end hL (by omega)).mp q
    omega
  have s0 : sx L xs (nI j) = some (xs j) := sx_at rfl (by omega) hL
  have s1 : sx L xs (nI j + 1) = some (xs (j + 1)) := sx_at (nI_add j 1) (by omega) hL
  have s2 : sx L xs (nI j + 2) = some (xs (j + 2)) := sx_at (nI_add j 2) (by omega) hL
  have c0 : ¬ (xs j &&& 31) = 0 := fun q => absurd (hc.symm.trans q) (by decide)
  have e5 : nI j + 5 = nI (j + 5) := nI_add j 5
  obtain ⟨y, σ1, σ', s', n', H', T', len', h1, h5, h2, h6, h7, h8⟩ := (op_add hN hb hW hC hR (xs (j + 1)) (xs (j + 2))).t
  have h1' : m_X8_add N σ b (xs (j + 1)) (xs (j + 2)) = some (y, σ1) := h1
  have h2' : m_X9_add N σ1 M (xs (j + 1)) (xs (j + 2)) = some (y, σ') := h2
  refine ⟨σ', ⟨s', n', H', T', len', h6, h7, h8⟩, fun v0 => ?_⟩
  rw [m_L_law_L18, if_neg hend, s0, Option.bind_some, Option.bind_some, if_neg c0, if_pos hc, s1, Option.bind_some, s2, Option.bind_some, hC.o.1, Option.bind_some, h1', b2_some, Option.bind_some, Option.bind_some, h5, Option.bind_some, h2', b2_some, if_pos rfl, Option.bind_some, e5]
theorem st_addRow {N b M L j n : Nat} {xs : Nat → Int32} {σ : zS} (hN : 7000 < N) (hb : b + 229 ≤ M) (hL : L ≤ 2560) (hj : j + 5 ≤ L) (hO : Ok2 σ b M) (hc : xs j &&& 31 = 2) : ∃ σ', Ok2 σ' b M ∧ ∀ v0, m_L_law_L18 L xs N (n + 1) σ v0 b M (nI j) = m_L_law_L18 L xs N n σ' v0 b M (nI (j + 5)) := by
  obtain ⟨s, n0, H, T, len, hW, hC, hR⟩ := hO
  have hend : ¬ nI L - 5 < nI j := fun q => by
    have := (law_end hL (by omega)).mp q
    omega
  have s0 : sx L xs (nI j) = some (xs j) := sx_at rfl (by omega) hL
  have s1 : sx L xs (nI j + 1) = some (xs (j + 1)) := sx_at (nI_add j 1) (by omega) hL
  have s2 : sx L xs (nI j + 2) = some (xs (j + 2)) := sx_at (nI_add j 2) (by omega) hL
  have s3 : sx L xs (nI j + 3) = some (xs (j + 3)) := sx_at (nI_add j 3) (by omega) hL
  have s4 : sx L xs (nI j + 4) = some (xs (j + 4)) := sx_at (nI_add j 4) (by omega) hL
  have c0 : ¬ (xs j &&& 31) = 0 := fun q => absurd (hc.symm.trans q) (by decide)
  have c1 : ¬ (xs j &&& 31) = 1 := fun q => absurd (hc.symm.trans q) (by decide)
  have e5 : nI j + 5 = nI (j + 5) := nI_add j 5
  obtain ⟨y, σ1, σ', s', n', H', T', len', h1, h5, h2, h6, h7, h8⟩ := (op_addRow hN hb hW hC hR (xs (j + 1)) (xs (j + 2)) (xs (j + 3)) (xs (j + 4))).t
  have h1' : m_X8_addRow N σ b (xs (j + 1)) (xs (j + 2)) (xs (j + 3)) (xs (j + 4)) = some (y, σ1) := h1
  have h2' : m_X9_addRow N σ1 M (xs (j + 1)) (xs (j + 2)) (xs (j + 3)) (xs (j + 4)) = some (y, σ') := h2
  refine ⟨σ', ⟨s', n', H', T', len', h6, h7, h8⟩, fun v0 => ?_⟩
  rw [m_L_law_L18, if_neg hend, s0, Option.bind_some, Option.bind_some, if_neg c0, if_neg c1, if_pos hc, s1, Option.bind_some, s2, Option.bind_some, s3, Option.bind_some, s4, Option.bind_some, hC.o.1, Option.bind_some, h1', b2_some, Option.bind_some, Option.bind_some, Option.bind_some, Option.bind_some, h5, Option.bind_some, h2', b2_some, if_pos rfl, Option.bind_some, e5]
theorem st_merge {N b M L j n : Nat} {xs : Nat → Int32} {σ : zS} (hN : 7000 < N) (hb : b + 229 ≤ M) (hL : L ≤ 2560) (hj : j + 5 ≤ L) (hO : Ok2 σ b M) (hc : xs j &&& 31 = 3) : ∃ σ', Ok2 σ' b M ∧ ∀ v0, m_L_law_L18 L xs N (n + 1) σ v0 b M (nI j) = m_L_law_L18 L xs N n σ' v0 b M (nI (j + 5)) := by
  obtain ⟨s, n0, H, T, len, hW, hC, hR⟩ := hO
  have hend : ¬ nI L - 5 < nI j := fun q => by
    have := (law_end hL (by omega)).mp q
    omega
  have s0 : sx L xs (nI j) = some (xs j) := sx_at rfl (by omega) hL
  have s1 : sx L xs (nI j + 1) = some (xs (j + 1)) := sx_at (nI_add j 1) (by omega) hL
  have s2 : sx L xs (nI j + 2) = some (xs (j + 2)) := sx_at (nI_add j 2) (by omega) hL
  have c0 : ¬ (xs j &&& 31) = 0 := fun q => absurd (hc.symm.trans q) (by decide)
  have c1 : ¬ (xs j &&& 31) = 1 := fun q => absurd (hc.symm.trans q) (by decide)
  have c2 : ¬ (xs j &&& 31) = 2 := fun q => absurd (hc.symm.trans q) (by decide)
  have e5 : nI j + 5 = nI (j + 5) := nI_add j 5
  obtain ⟨y, σ1, σ', s', n', H', T', len', h1, h5, h2, h6, h7, h8⟩ := (op_merge hN hb hW hC hR (xs (j + 1)) (xs (j + 2))).t
  have h1' : m_X8_merge N σ b (xs (j + 1)) (xs (j + 2)) = some (y, σ1) := h1
  have h2' : m_X9_merge N σ1 M (xs (j + 1)) (xs (j + 2)) = some (y, σ') := h2
  refine ⟨σ', ⟨s', n', H', T', len', h6, h7, h8⟩, fun v0 => ?_⟩
  rw [m_L_law_L18, if_neg hend, s0, Option.bind_some, Option.bind_some, if_neg c0, if_neg c1, if_neg c2, if_pos hc, s1, Option.bind_some, s2, Option.bind_some, hC.o.1, Option.bind_some, h1', b2_some, Option.bind_some, Option.bind_some, h5, Option.bind_some, h2', b2_some, if_pos rfl, Option.bind_some, e5]
theorem st_reset {N b M L j n : Nat} {xs : Nat → Int32} {σ : zS} (hN : 7000 < N) (hb : b + 229 ≤ M) (hL : L ≤ 2560) (hj : j + 5 ≤ L) (hO : Ok2 σ b M) (hc : xs j &&& 31 = 4) : ∃ σ', Ok2 σ' b M ∧ ∀ v0, m_L_law_L18 L xs N (n + 1) σ v0 b M (nI j) = m_L_law_L18 L xs N n σ' v0 b M (nI (j + 5)) := by
  obtain ⟨s, n0, H, T, len, hW, hC, hR⟩ := hO
  have hend : ¬ nI L - 5 < nI j := fun q => by
    have := (law_end hL (by omega)).mp q
    omega
  have s0 : sx L xs (nI j) = some (xs j) := sx_at rfl (by omega) hL
  have s1 : sx L xs (nI j + 1) = some (xs (j + 1)) := sx_at (nI_add j 1) (by omega) hL
  have c0 : ¬ (xs j &&& 31) = 0 := fun q => absurd (hc.symm.trans q) (by decide)
  have c1 : ¬ (xs j &&& 31) = 1 := fun q => absurd (hc.symm.trans q) (by decide)
  have c2 : ¬ (xs j &&& 31) = 2 := fun q => absurd (hc.symm.trans q) (by decide)
  have c3 : ¬ (xs j &&& 31) = 3 := fun q => absurd (hc.symm.trans q) (by decide)
  have e5 : nI j + 5 = nI (j + 5) := nI_add j 5
  obtain ⟨y, σ1, σ', s', n', H', T', len', h1, h5, h2, h6, h7, h8⟩ := (op_reset hN hb hW hC hR (xs (j + 1))).t
  have h1' : m_X8_reset N σ b (xs (j + 1)) = some (y, σ1) := h1
  have h2' : m_X9_reset N σ1 M (xs (j + 1)) = some (y, σ') := h2
  refine ⟨σ', ⟨s', n', H', T', len', h6, h7, h8⟩, fun v0 => ?_⟩
  rw [m_L_law_L18, if_neg hend, s0, Option.bind_some, Option.bind_some, if_neg c0, if_neg c1, if_neg c2, if_neg c3, if_pos hc, s1, Option.bind_some, hC.o.1, Option.bind_some, h1', b2_some, Option.bind_some, h5, Option.bind_some, h2', b2_some, if_pos rfl, Option.bind_some, e5]
theorem st_tableOf {N b M L j n : Nat} {xs : Nat → Int32} {σ : zS} (hN : 7000 < N) (hb : b + 229 ≤ M) (hL : L ≤ 2560) (hj : j + 5 ≤ L) (hO : Ok2 σ b M) (hc : xs j &&& 31 = 5) : ∃ σ', Ok2 σ' b M ∧ ∀ v0, m_L_law_L18 L xs N (n + 1) σ v0 b M (nI j) = m_L_law_L18 L xs N n σ' v0 b M (nI (j + 5)) := by
  obtain ⟨s, n0, H, T, len, hW, hC, hR⟩ := hO
  have hend : ¬ nI L - 5 < nI j := fun q => by
    have := (law_end hL (by omega)).mp q
    omega
  have s0 : sx L xs (nI j) = some (xs j) := sx_at rfl (by omega) hL
  have s1 : sx L xs (nI j + 1) = some (xs (j + 1)) := sx_at (nI_add j 1) (by omega) hL
  have s2 : sx L xs (nI j + 2) = some (xs (j + 2)) := sx_at (nI_add j 2) (by omega) hL
  have c0 : ¬ (xs j &&& 31) = 0 := fun q => absurd (hc.symm.trans q) (by decide)
  have c1 : ¬ (xs j &&& 31) = 1 := fun q => absurd (hc.symm.trans q) (by decide)
  have c2 : ¬ (xs j &&& 31) = 2 := fun q => absurd (hc.symm.trans q) (by decide)
  have c3 : ¬ (xs j &&& 31) = 3 := fun q => absurd (hc.symm.trans q) (by decide)
  have c4 : ¬ (xs j &&& 31) = 4 := fun q => absurd (hc.symm.trans q) (by decide)
  have e5 : nI j + 5 = nI (j + 5) := nI_add j 5
  obtain ⟨y, h1, h2⟩ := op_tableOf hN hW hC hR (xs (j + 1)) (xs (j + 2))
  refine ⟨σ, ⟨s, n0, H, T, len, hW, hC, hR⟩, fun v0 => ?_⟩
  rw [m_L_law_L18, if_neg hend, s0, Option.bind_some, Option.bind_some, if_neg c0, if_neg c1, if_neg c2, if_neg c3, if_neg c4, if_pos hc, s1, Option.bind_some, s2, Option.bind_some, hC.o.1, Option.bind_some, h1, Option.bind_some, Option.bind_some, Option.bind_some, hR.mb.o.1, Option.bind_some, h2, Option.bind_some, if_pos rfl, Option.bind_some, e5]
theorem st_keptAt {N b M L j n : Nat} {xs : Nat → Int32} {σ : zS} (hN : 7000 < N) (hb : b + 229 ≤ M) (hL : L ≤ 2560) (hj : j + 5 ≤ L) (hO : Ok2 σ b M) (hc : xs j &&& 31 = 6) : ∃ σ', Ok2 σ' b M ∧ ∀ v0, m_L_law_L18 L xs N (n + 1) σ v0 b M (nI j) = m_L_law_L18 L xs N n σ' v0 b M (nI (j + 5)) := by
  obtain ⟨s, n0, H, T, len, hW, hC, hR⟩ := hO
  have hend : ¬ nI L - 5 < nI j := fun q => by
    have := (law_end hL (by omega)).mp q
    omega
  have s0 : sx L xs (nI j) = some (xs j) := sx_at rfl (by omega) hL
  have s1 : sx L xs (nI j + 1) = some (xs (j + 1)) := sx_at (nI_add j 1) (by omega) hL
  have s2 : sx L xs (nI j + 2) = some (xs (j + 2)) := sx_at (nI_add j 2) (by omega) hL
  have c0 : ¬ (xs j &&& 31) = 0 := fun q => absurd (hc.symm.trans q) (by decide)
  have c1 : ¬ (xs j &&& 31) = 1 := fun q => absurd (hc.symm.trans q) (by decide)
  have c2 : ¬ (xs j &&& 31) = 2 := fun q => absurd (hc.symm.trans q) (by decide)
  have c3 : ¬ (xs j &&& 31) = 3 := fun q => absurd (hc.symm.trans q) (by decide)
  have c4 : ¬ (xs j &&& 31) = 4 := fun q => absurd (hc.symm.trans q) (by decide)
  have c5 : ¬ (xs j &&& 31) = 5 := fun q => absurd (hc.symm.trans q) (by decide)
  have e5 : nI j + 5 = nI (j + 5) := nI_add j 5
  obtain ⟨y, h1, h2⟩ := op_keptAt hN hW hC hR (xs (j + 1)) (xs (j + 2))
  refine ⟨σ, ⟨s, n0, H, T, len, hW, hC, hR⟩, fun v0 => ?_⟩
  rw [m_L_law_L18, if_neg hend, s0, Option.bind_some, Option.bind_some, if_neg c0, if_neg c1, if_neg c2, if_neg c3, if_neg c4, if_neg c5, if_pos hc, s1, Option.bind_some, s2, Option.bind_some, hC.o.1, Option.bind_some, h1, Option.bind_some, Option.bind_some, Option.bind_some, hR.mb.o.1, Option.bind_some, h2, Option.bind_some, if_pos rfl, Option.bind_some, e5]
theorem st_sawAt {N b M L j n : Nat} {xs : Nat → Int32} {σ : zS} (hN : 7000 < N) (hb : b + 229 ≤ M) (hL : L ≤ 2560) (hj : j + 5 ≤ L) (hO : Ok2 σ b M) (hc : xs j &&& 31 = 7) : ∃ σ', Ok2 σ' b M ∧ ∀ v0, m_L_law_L18 L xs N (n + 1) σ v0 b M (nI j) = m_L_law_L18 L xs N n σ' v0 b M (nI (j + 5)) := by
  obtain ⟨s, n0, H, T, len, hW, hC, hR⟩ := hO
  have hend : ¬ nI L - 5 < nI j := fun q => by
    have := (law_end hL (by omega)).mp q
    omega
  have s0 : sx L xs (nI j) = some (xs j) := sx_at rfl (by omega) hL
  have s1 : sx L xs (nI j + 1) = some (xs (j + 1)) := sx_at (nI_add j 1) (by omega) hL
  have s2 : sx L xs (nI j + 2) = some (xs (j + 2)) := sx_at (nI_add j 2) (by omega) hL
  have s3 : sx L xs (nI j + 3) = some (xs (j + 3)) := sx_at (nI_add j 3) (by omega) hL
  have c0 : ¬ (xs j &&& 31) = 0 := fun q => absurd (hc.symm.trans q) (by decide)
  have c1 : ¬ (xs j &&& 31) = 1 := fun q => absurd (hc.symm.trans q) (by decide)
  have c2 : ¬ (xs j &&& 31) = 2 := fun q => absurd (hc.symm.trans q) (by decide)
  have c3 : ¬ (xs j &&& 31) = 3 := fun q => absurd (hc.symm.trans q) (by decide)
  have c4 : ¬ (xs j &&& 31) = 4 := fun q => absurd (hc.symm.trans q) (by decide)
  have c5 : ¬ (xs j &&& 31) = 5 := fun q => absurd (hc.symm.trans q) (by decide)
  have c6 : ¬ (xs j &&& 31) = 6 := fun q => absurd (hc.symm.trans q) (by decide)
  have e5 : nI j + 5 = nI (j + 5) := nI_add j 5
  obtain ⟨y, h1, h2⟩ := op_sawAt hN hW hC hR (xs (j + 1)) (xs (j + 2)) (xs (j + 3))
  refine ⟨σ, ⟨s, n0, H, T, len, hW, hC, hR⟩, fun v0 => ?_⟩
  rw [m_L_law_L18, if_neg hend, s0, Option.bind_some, Option.bind_some, if_neg c0, if_neg c1, if_neg c2, if_neg c3, if_neg c4, if_neg c5, if_neg c6, if_pos hc, s1, Option.bind_some, s2, Option.bind_some, s3, Option.bind_some, hC.o.1, Option.bind_some, h1, Option.bind_some, Option.bind_some, Option.bind_some, Option.bind_some, hR.mb.o.1, Option.bind_some, h2, Option.bind_some, if_pos rfl, Option.bind_some, e5]
theorem st_hash {N b M L j n : Nat} {xs : Nat → Int32} {σ : zS} (hN : 7000 < N) (hb : b + 229 ≤ M) (hL : L ≤ 2560) (hj : j + 5 ≤ L) (hO : Ok2 σ b M) (hc : xs j &&& 31 = 8) : ∃ σ', Ok2 σ' b M ∧ ∀ v0, m_L_law_L18 L xs N (n + 1) σ v0 b M (nI j) = m_L_law_L18 L xs N n σ' v0 b M (nI (j + 5)) := by
  obtain ⟨s, n0, H, T, len, hW, hC, hR⟩ := hO
  have hend : ¬ nI L - 5 < nI j := fun q => by
    have := (law_end hL (by omega)).mp q
    omega
  have s0 : sx L xs (nI j) = some (xs j) := sx_at rfl (by omega) hL
  have s1 : sx L xs (nI j + 1) = some (xs (j + 1)) := sx_at (nI_add j 1) (by omega) hL
  have s2 : sx L xs (nI j + 2) = some (xs (j + 2)) := sx_at (nI_add j 2) (by omega) hL
  have c0 : ¬ (xs j &&& 31) = 0 := fun q => absurd (hc.symm.trans q) (by decide)
  have c1 : ¬ (xs j &&& 31) = 1 := fun q => absurd (hc.symm.trans q) (by decide)
  have c2 : ¬ (xs j &&& 31) = 2 := fun q => absurd (hc.symm.trans q) (by decide)
  have c3 : ¬ (xs j &&& 31) = 3 := fun q => absurd (hc.symm.trans q) (by decide)
  have c4 : ¬ (xs j &&& 31) = 4 := fun q => absurd (hc.symm.trans q) (by decide)
  have c5 : ¬ (xs j &&& 31) = 5 := fun q => absurd (hc.symm.trans q) (by decide)
  have c6 : ¬ (xs j &&& 31) = 6 := fun q => absurd (hc.symm.trans q) (by decide)
  have c7 : ¬ (xs j &&& 31) = 7 := fun q => absurd (hc.symm.trans q) (by decide)
  have e5 : nI j + 5 = nI (j + 5) := nI_add j 5
  obtain ⟨y, h1, h2⟩ := op_hash hN hW hC hR (xs (j + 1)) (xs (j + 2))
  refine ⟨σ, ⟨s, n0, H, T, len, hW, hC, hR⟩, fun v0 => ?_⟩
  rw [m_L_law_L18, if_neg hend, s0, Option.bind_some, Option.bind_some, if_neg c0, if_neg c1, if_neg c2, if_neg c3, if_neg c4, if_neg c5, if_neg c6, if_neg c7, if_pos hc, s1, Option.bind_some, s2, Option.bind_some, hC.o.1, Option.bind_some, h1, Option.bind_some, Option.bind_some, Option.bind_some, hR.mb.o.1, Option.bind_some, h2, Option.bind_some, if_pos rfl, Option.bind_some, e5]
theorem st_has {N b M L j n : Nat} {xs : Nat → Int32} {σ : zS} (hN : 7000 < N) (hb : b + 229 ≤ M) (hL : L ≤ 2560) (hj : j + 5 ≤ L) (hO : Ok2 σ b M) (hc : xs j &&& 31 = 9) : ∃ σ', Ok2 σ' b M ∧ ∀ v0, m_L_law_L18 L xs N (n + 1) σ v0 b M (nI j) = m_L_law_L18 L xs N n σ' v0 b M (nI (j + 5)) := by
  obtain ⟨s, n0, H, T, len, hW, hC, hR⟩ := hO
  have hend : ¬ nI L - 5 < nI j := fun q => by
    have := (law_end hL (by omega)).mp q
    omega
  have s0 : sx L xs (nI j) = some (xs j) := sx_at rfl (by omega) hL
  have s1 : sx L xs (nI j + 1) = some (xs (j + 1)) := sx_at (nI_add j 1) (by omega) hL
  have s2 : sx L xs (nI j + 2) = some (xs (j + 2)) := sx_at (nI_add j 2) (by omega) hL
  have s3 : sx L xs (nI j + 3) = some (xs (j + 3)) := sx_at (nI_add j 3) (by omega) hL
  have c0 : ¬ (xs j &&& 31) = 0 := fun q => absurd (hc.symm.trans q) (by decide)
  have c1 : ¬ (xs j &&& 31) = 1 := fun q => absurd (hc.symm.trans q) (by decide)
  have c2 : ¬ (xs j &&& 31) = 2 := fun q => absurd (hc.symm.trans q) (by decide)
  have c3 : ¬ (xs j &&& 31) = 3 := fun q => absurd (hc.symm.trans q) (by decide)
  have c4 : ¬ (xs j &&& 31) = 4 := fun q => absurd (hc.symm.trans q) (by decide)
  have c5 : ¬ (xs j &&& 31) = 5 := fun q => absurd (hc.symm.trans q) (by decide)
  have c6 : ¬ (xs j &&& 31) = 6 := fun q => absurd (hc.symm.trans q) (by decide)
  have c7 : ¬ (xs j &&& 31) = 7 := fun q => absurd (hc.symm.trans q) (by decide)
  have c8 : ¬ (xs j &&& 31) = 8 := fun q => absurd (hc.symm.trans q) (by decide)
  have e5 : nI j + 5 = nI (j + 5) := nI_add j 5
  obtain ⟨y, σ', h1, h2, h3, h4⟩ := op_has hN hb hW hC hR (xs (j + 1)) (xs (j + 2)) (xs (j + 3))
  refine ⟨σ', ⟨s, n0, H, T, len, hW, h3, h4⟩, fun v0 => ?_⟩
  rw [m_L_law_L18, if_neg hend, s0, Option.bind_some, Option.bind_some, if_neg c0, if_neg c1, if_neg c2, if_neg c3, if_neg c4, if_neg c5, if_neg c6, if_neg c7, if_neg c8, if_pos hc, s1, Option.bind_some, s2, Option.bind_some, s3, Option.bind_some, hC.o.1, Option.bind_some, h1, Option.bind_some, Option.bind_some, Option.bind_some, Option.bind_some, hR.mb.o.1, Option.bind_some, h2, b2_some, if_pos rfl, Option.bind_some, e5]
theorem st_logAt {N b M L j n : Nat} {xs : Nat → Int32} {σ : zS} (hN : 7000 < N) (hb : b + 229 ≤ M) (hL : L ≤ 2560) (hj : j + 5 ≤ L) (hO : Ok2 σ b M) (hc : xs j &&& 31 = 10) : ∃ σ', Ok2 σ' b M ∧ ∀ v0, m_L_law_L18 L xs N (n + 1) σ v0 b M (nI j) = m_L_law_L18 L xs N n σ' v0 b M (nI (j + 5)) := by
  obtain ⟨s, n0, H, T, len, hW, hC, hR⟩ := hO
  have hend : ¬ nI L - 5 < nI j := fun q => by
    have := (law_end hL (by omega)).mp q
    omega
  have s0 : sx L xs (nI j) = some (xs j) := sx_at rfl (by omega) hL
  have s1 : sx L xs (nI j + 1) = some (xs (j + 1)) := sx_at (nI_add j 1) (by omega) hL
  have s2 : sx L xs (nI j + 2) = some (xs (j + 2)) := sx_at (nI_add j 2) (by omega) hL
  have c0 : ¬ (xs j &&& 31) = 0 := fun q => absurd (hc.symm.trans q) (by decide)
  have c1 : ¬ (xs j &&& 31) = 1 := fun q => absurd (hc.symm.trans q) (by decide)
  have c2 : ¬ (xs j &&& 31) = 2 := fun q => absurd (hc.symm.trans q) (by decide)
  have c3 : ¬ (xs j &&& 31) = 3 := fun q => absurd (hc.symm.trans q) (by decide)
  have c4 : ¬ (xs j &&& 31) = 4 := fun q => absurd (hc.symm.trans q) (by decide)
  have c5 : ¬ (xs j &&& 31) = 5 := fun q => absurd (hc.symm.trans q) (by decide)
  have c6 : ¬ (xs j &&& 31) = 6 := fun q => absurd (hc.symm.trans q) (by decide)
  have c7 : ¬ (xs j &&& 31) = 7 := fun q => absurd (hc.symm.trans q) (by decide)
  have c8 : ¬ (xs j &&& 31) = 8 := fun q => absurd (hc.symm.trans q) (by decide)
  have c9 : ¬ (xs j &&& 31) = 9 := fun q => absurd (hc.symm.trans q) (by decide)
  have e5 : nI j + 5 = nI (j + 5) := nI_add j 5
  obtain ⟨y, h1, h2⟩ := op_logAt hN hW hC hR (xs (j + 1)) (xs (j + 2))
  refine ⟨σ, ⟨s, n0, H, T, len, hW, hC, hR⟩, fun v0 => ?_⟩
  rw [m_L_law_L18, if_neg hend, s0, Option.bind_some, Option.bind_some, if_neg c0, if_neg c1, if_neg c2, if_neg c3, if_neg c4, if_neg c5, if_neg c6, if_neg c7, if_neg c8, if_neg c9, if_pos hc, s1, Option.bind_some, s2, Option.bind_some, hC.o.1, Option.bind_some, h1, Option.bind_some, Option.bind_some, Option.bind_some, hR.mb.o.1, Option.bind_some, h2, Option.bind_some, if_pos rfl, Option.bind_some, e5]
theorem st_count {N b M L j n : Nat} {xs : Nat → Int32} {σ : zS} (hN : 7000 < N) (hb : b + 229 ≤ M) (hL : L ≤ 2560) (hj : j + 5 ≤ L) (hO : Ok2 σ b M) (hc : xs j &&& 31 = 11) : ∃ σ', Ok2 σ' b M ∧ ∀ v0, m_L_law_L18 L xs N (n + 1) σ v0 b M (nI j) = m_L_law_L18 L xs N n σ' v0 b M (nI (j + 5)) := by
  obtain ⟨s, n0, H, T, len, hW, hC, hR⟩ := hO
  have hend : ¬ nI L - 5 < nI j := fun q => by
    have := (law_end hL (by omega)).mp q
    omega
  have s0 : sx L xs (nI j) = some (xs j) := sx_at rfl (by omega) hL
  have s1 : sx L xs (nI j + 1) = some (xs (j + 1)) := sx_at (nI_add j 1) (by omega) hL
  have c0 : ¬ (xs j &&& 31) = 0 := fun q => absurd (hc.symm.trans q) (by decide)
  have c1 : ¬ (xs j &&& 31) = 1 := fun q => absurd (hc.symm.trans q) (by decide)
  have c2 : ¬ (xs j &&& 31) = 2 := fun q => absurd (hc.symm.trans q) (by decide)
  have c3 : ¬ (xs j &&& 31) = 3 := fun q => absurd (hc.symm.trans q) (by decide)
  have c4 : ¬ (xs j &&& 31) = 4 := fun q => absurd (hc.symm.trans q) (by decide)
  have c5 : ¬ (xs j &&& 31) = 5 := fun q => absurd (hc.symm.trans q) (by decide)
  have c6 : ¬ (xs j &&& 31) = 6 := fun q => absurd (hc.symm.trans q) (by decide)
  have c7 : ¬ (xs j &&& 31) = 7 := fun q => absurd (hc.symm.trans q) (by decide)
  have c8 : ¬ (xs j &&& 31) = 8 := fun q => absurd (hc.symm.trans q) (by decide)
  have c9 : ¬ (xs j &&& 31) = 9 := fun q => absurd (hc.symm.trans q) (by decide)
  have c10 : ¬ (xs j &&& 31) = 10 := fun q => absurd (hc.symm.trans q) (by decide)
  have e5 : nI j + 5 = nI (j + 5) := nI_add j 5
  obtain ⟨y, h1, h2⟩ := op_count hN hW hC hR (xs (j + 1))
  refine ⟨σ, ⟨s, n0, H, T, len, hW, hC, hR⟩, fun v0 => ?_⟩
  rw [m_L_law_L18, if_neg hend, s0, Option.bind_some, Option.bind_some, if_neg c0, if_neg c1, if_neg c2, if_neg c3, if_neg c4, if_neg c5, if_neg c6, if_neg c7, if_neg c8, if_neg c9, if_neg c10, if_pos hc, s1, Option.bind_some, hC.o.1, Option.bind_some, h1, Option.bind_some, Option.bind_some, hR.mb.o.1, Option.bind_some, h2, Option.bind_some, if_pos rfl, Option.bind_some, e5]
theorem st_errorBits {N b M L j n : Nat} {xs : Nat → Int32} {σ : zS} (hN : 7000 < N) (hb : b + 229 ≤ M) (hL : L ≤ 2560) (hj : j + 5 ≤ L) (hO : Ok2 σ b M) (hc : xs j &&& 31 = 12) : ∃ σ', Ok2 σ' b M ∧ ∀ v0, m_L_law_L18 L xs N (n + 1) σ v0 b M (nI j) = m_L_law_L18 L xs N n σ' v0 b M (nI (j + 5)) := by
  obtain ⟨s, n0, H, T, len, hW, hC, hR⟩ := hO
  have hend : ¬ nI L - 5 < nI j := fun q => by
    have := (law_end hL (by omega)).mp q
    omega
  have s0 : sx L xs (nI j) = some (xs j) := sx_at rfl (by omega) hL
  have s1 : sx L xs (nI j + 1) = some (xs (j + 1)) := sx_at (nI_add j 1) (by omega) hL
  have c0 : ¬ (xs j &&& 31) = 0 := fun q => absurd (hc.symm.trans q) (by decide)
  have c1 : ¬ (xs j &&& 31) = 1 := fun q => absurd (hc.symm.trans q) (by decide)
  have c2 : ¬ (xs j &&& 31) = 2 := fun q => absurd (hc.symm.trans q) (by decide)
  have c3 : ¬ (xs j &&& 31) = 3 := fun q => absurd (hc.symm.trans q) (by decide)
  have c4 : ¬ (xs j &&& 31) = 4 := fun q => absurd (hc.symm.trans q) (by decide)
  have c5 : ¬ (xs j &&& 31) = 5 := fun q => absurd (hc.symm.trans q) (by decide)
  have c6 : ¬ (xs j &&& 31) = 6 := fun q => absurd (hc.symm.trans q) (by decide)
  have c7 : ¬ (xs j &&& 31) = 7 := fun q => absurd (hc.symm.trans q) (by decide)
  have c8 : ¬ (xs j &&& 31) = 8 := fun q => absurd (hc.symm.trans q) (by decide)
  have c9 : ¬ (xs j &&& 31) = 9 := fun q => absurd (hc.symm.trans q) (by decide)
  have c10 : ¬ (xs j &&& 31) = 10 := fun q => absurd (hc.symm.trans q) (by decide)
  have c11 : ¬ (xs j &&& 31) = 11 := fun q => absurd (hc.symm.trans q) (by decide)
  have e5 : nI j + 5 = nI (j + 5) := nI_add j 5
  obtain ⟨y, h1, h2⟩ := op_errorBits hN hW hC hR (xs (j + 1))
  refine ⟨σ, ⟨s, n0, H, T, len, hW, hC, hR⟩, fun v0 => ?_⟩
  rw [m_L_law_L18, if_neg hend, s0, Option.bind_some, Option.bind_some, if_neg c0, if_neg c1, if_neg c2, if_neg c3, if_neg c4, if_neg c5, if_neg c6, if_neg c7, if_neg c8, if_neg c9, if_neg c10, if_neg c11, if_pos hc, s1, Option.bind_some, hC.o.1, Option.bind_some, h1, Option.bind_some, Option.bind_some, hR.mb.o.1, Option.bind_some, h2, Option.bind_some, if_pos rfl, Option.bind_some, e5]
theorem st_byError {N b M L j n : Nat} {xs : Nat → Int32} {σ : zS} (hN : 7000 < N) (hb : b + 229 ≤ M) (hL : L ≤ 2560) (hj : j + 5 ≤ L) (hO : Ok2 σ b M) (hc : xs j &&& 31 = 13) : ∃ σ', Ok2 σ' b M ∧ ∀ v0, m_L_law_L18 L xs N (n + 1) σ v0 b M (nI j) = m_L_law_L18 L xs N n σ' v0 b M (nI (j + 5)) := by
  obtain ⟨s, n0, H, T, len, hW, hC, hR⟩ := hO
  have hend : ¬ nI L - 5 < nI j := fun q => by
    have := (law_end hL (by omega)).mp q
    omega
  have s0 : sx L xs (nI j) = some (xs j) := sx_at rfl (by omega) hL
  have s1 : sx L xs (nI j + 1) = some (xs (j + 1)) := sx_at (nI_add j 1) (by omega) hL
  have c0 : ¬ (xs j &&& 31) = 0 := fun q => absurd (hc.symm.trans q) (by decide)
  have c1 : ¬ (xs j &&& 31) = 1 := fun q => absurd (hc.symm.trans q) (by decide)
  have c2 : ¬ (xs j &&& 31) = 2 := fun q => absurd (hc.symm.trans q) (by decide)
  have c3 : ¬ (xs j &&& 31) = 3 := fun q => absurd (hc.symm.trans q) (by decide)
  have c4 : ¬ (xs j &&& 31) = 4 := fun q => absurd (hc.symm.trans q) (by decide)
  have c5 : ¬ (xs j &&& 31) = 5 := fun q => absurd (hc.symm.trans q) (by decide)
  have c6 : ¬ (xs j &&& 31) = 6 := fun q => absurd (hc.symm.trans q) (by decide)
  have c7 : ¬ (xs j &&& 31) = 7 := fun q => absurd (hc.symm.trans q) (by decide)
  have c8 : ¬ (xs j &&& 31) = 8 := fun q => absurd (hc.symm.trans q) (by decide)
  have c9 : ¬ (xs j &&& 31) = 9 := fun q => absurd (hc.symm.trans q) (by decide)
  have c10 : ¬ (xs j &&& 31) = 10 := fun q => absurd (hc.symm.trans q) (by decide)
  have c11 : ¬ (xs j &&& 31) = 11 := fun q => absurd (hc.symm.trans q) (by decide)
  have c12 : ¬ (xs j &&& 31) = 12 := fun q => absurd (hc.symm.trans q) (by decide)
  have e5 : nI j + 5 = nI (j + 5) := nI_add j 5
  obtain ⟨y, h1, h2⟩ := op_byError hN hW hC hR (xs (j + 1))
  refine ⟨σ, ⟨s, n0, H, T, len, hW, hC, hR⟩, fun v0 => ?_⟩
  rw [m_L_law_L18, if_neg hend, s0, Option.bind_some, Option.bind_some, if_neg c0, if_neg c1, if_neg c2, if_neg c3, if_neg c4, if_neg c5, if_neg c6, if_neg c7, if_neg c8, if_neg c9, if_neg c10, if_neg c11, if_neg c12, if_pos hc, s1, Option.bind_some, hC.o.1, Option.bind_some, h1, Option.bind_some, Option.bind_some, hR.mb.o.1, Option.bind_some, h2, Option.bind_some, if_pos rfl, Option.bind_some, e5]
theorem st_would {N b M L j n : Nat} {xs : Nat → Int32} {σ : zS} (hN : 7000 < N) (hb : b + 229 ≤ M) (hL : L ≤ 2560) (hj : j + 5 ≤ L) (hO : Ok2 σ b M) (hc : xs j &&& 31 = 14) : ∃ σ', Ok2 σ' b M ∧ ∀ v0, m_L_law_L18 L xs N (n + 1) σ v0 b M (nI j) = m_L_law_L18 L xs N n σ' v0 b M (nI (j + 5)) := by
  obtain ⟨s, n0, H, T, len, hW, hC, hR⟩ := hO
  have hend : ¬ nI L - 5 < nI j := fun q => by
    have := (law_end hL (by omega)).mp q
    omega
  have s0 : sx L xs (nI j) = some (xs j) := sx_at rfl (by omega) hL
  have s1 : sx L xs (nI j + 1) = some (xs (j + 1)) := sx_at (nI_add j 1) (by omega) hL
  have s2 : sx L xs (nI j + 2) = some (xs (j + 2)) := sx_at (nI_add j 2) (by omega) hL
  have c0 : ¬ (xs j &&& 31) = 0 := fun q => absurd (hc.symm.trans q) (by decide)
  have c1 : ¬ (xs j &&& 31) = 1 := fun q => absurd (hc.symm.trans q) (by decide)
  have c2 : ¬ (xs j &&& 31) = 2 := fun q => absurd (hc.symm.trans q) (by decide)
  have c3 : ¬ (xs j &&& 31) = 3 := fun q => absurd (hc.symm.trans q) (by decide)
  have c4 : ¬ (xs j &&& 31) = 4 := fun q => absurd (hc.symm.trans q) (by decide)
  have c5 : ¬ (xs j &&& 31) = 5 := fun q => absurd (hc.symm.trans q) (by decide)
  have c6 : ¬ (xs j &&& 31) = 6 := fun q => absurd (hc.symm.trans q) (by decide)
  have c7 : ¬ (xs j &&& 31) = 7 := fun q => absurd (hc.symm.trans q) (by decide)
  have c8 : ¬ (xs j &&& 31) = 8 := fun q => absurd (hc.symm.trans q) (by decide)
  have c9 : ¬ (xs j &&& 31) = 9 := fun q => absurd (hc.symm.trans q) (by decide)
  have c10 : ¬ (xs j &&& 31) = 10 := fun q => absurd (hc.symm.trans q) (by decide)
  have c11 : ¬ (xs j &&& 31) = 11 := fun q => absurd (hc.symm.trans q) (by decide)
  have c12 : ¬ (xs j &&& 31) = 12 := fun q => absurd (hc.symm.trans q) (by decide)
  have c13 : ¬ (xs j &&& 31) = 13 := fun q => absurd (hc.symm.trans q) (by decide)
  have e5 : nI j + 5 = nI (j + 5) := nI_add j 5
  obtain ⟨y, σ1, σ', h1, h5, h2, h3, h4⟩ := op_would hN hb hW hC hR (xs (j + 1)) (xs (j + 2))
  refine ⟨σ', ⟨s, n0, H, T, len, hW, h3, h4⟩, fun v0 => ?_⟩
  rw [m_L_law_L18, if_neg hend, s0, Option.bind_some, Option.bind_some, if_neg c0, if_neg c1, if_neg c2, if_neg c3, if_neg c4, if_neg c5, if_neg c6, if_neg c7, if_neg c8, if_neg c9, if_neg c10, if_neg c11, if_neg c12, if_neg c13, if_pos hc, s1, Option.bind_some, s2, Option.bind_some, hC.o.1, Option.bind_some, h1, b2_some, Option.bind_some, Option.bind_some, h5, Option.bind_some, h2, b2_some, if_pos rfl, Option.bind_some, e5]
theorem st_raises {N b M L j n : Nat} {xs : Nat → Int32} {σ : zS} (hN : 7000 < N) (hb : b + 229 ≤ M) (hL : L ≤ 2560) (hj : j + 5 ≤ L) (hO : Ok2 σ b M) (hc : xs j &&& 31 = 15) : ∃ σ', Ok2 σ' b M ∧ ∀ v0, m_L_law_L18 L xs N (n + 1) σ v0 b M (nI j) = m_L_law_L18 L xs N n σ' v0 b M (nI (j + 5)) := by
  obtain ⟨s, n0, H, T, len, hW, hC, hR⟩ := hO
  have hend : ¬ nI L - 5 < nI j := fun q => by
    have := (law_end hL (by omega)).mp q
    omega
  have s0 : sx L xs (nI j) = some (xs j) := sx_at rfl (by omega) hL
  have s1 : sx L xs (nI j + 1) = some (xs (j + 1)) := sx_at (nI_add j 1) (by omega) hL
  have c0 : ¬ (xs j &&& 31) = 0 := fun q => absurd (hc.symm.trans q) (by decide)
  have c1 : ¬ (xs j &&& 31) = 1 := fun q => absurd (hc.symm.trans q) (by decide)
  have c2 : ¬ (xs j &&& 31) = 2 := fun q => absurd (hc.symm.trans q) (by decide)
  have c3 : ¬ (xs j &&& 31) = 3 := fun q => absurd (hc.symm.trans q) (by decide)
  have c4 : ¬ (xs j &&& 31) = 4 := fun q => absurd (hc.symm.trans q) (by decide)
  have c5 : ¬ (xs j &&& 31) = 5 := fun q => absurd (hc.symm.trans q) (by decide)
  have c6 : ¬ (xs j &&& 31) = 6 := fun q => absurd (hc.symm.trans q) (by decide)
  have c7 : ¬ (xs j &&& 31) = 7 := fun q => absurd (hc.symm.trans q) (by decide)
  have c8 : ¬ (xs j &&& 31) = 8 := fun q => absurd (hc.symm.trans q) (by decide)
  have c9 : ¬ (xs j &&& 31) = 9 := fun q => absurd (hc.symm.trans q) (by decide)
  have c10 : ¬ (xs j &&& 31) = 10 := fun q => absurd (hc.symm.trans q) (by decide)
  have c11 : ¬ (xs j &&& 31) = 11 := fun q => absurd (hc.symm.trans q) (by decide)
  have c12 : ¬ (xs j &&& 31) = 12 := fun q => absurd (hc.symm.trans q) (by decide)
  have c13 : ¬ (xs j &&& 31) = 13 := fun q => absurd (hc.symm.trans q) (by decide)
  have c14 : ¬ (xs j &&& 31) = 14 := fun q => absurd (hc.symm.trans q) (by decide)
  have e5 : nI j + 5 = nI (j + 5) := nI_add j 5
  obtain ⟨y, σ', h1, h2, h3, h4⟩ := op_raises hN hb hW hC hR (xs (j + 1))
  refine ⟨σ', ⟨s, n0, H, T, len, hW, h3, h4⟩, fun v0 => ?_⟩
  rw [m_L_law_L18, if_neg hend, s0, Option.bind_some, Option.bind_some, if_neg c0, if_neg c1, if_neg c2, if_neg c3, if_neg c4, if_neg c5, if_neg c6, if_neg c7, if_neg c8, if_neg c9, if_neg c10, if_neg c11, if_neg c12, if_neg c13, if_neg c14, if_pos hc, s1, Option.bind_some, hC.o.1, Option.bind_some, h1, Option.bind_some, Option.bind_some, hR.mb.o.1, Option.bind_some, h2, b2_some, if_pos rfl, Option.bind_some, e5]
theorem st_both {N b M L j n : Nat} {xs : Nat → Int32} {σ : zS} (hN : 7000 < N) (hb : b + 229 ≤ M) (hL : L ≤ 2560) (hj : j + 5 ≤ L) (hO : Ok2 σ b M) (hc : xs j &&& 31 = 16) : ∃ σ', Ok2 σ' b M ∧ ∀ v0, m_L_law_L18 L xs N (n + 1) σ v0 b M (nI j) = m_L_law_L18 L xs N n σ' v0 b M (nI (j + 5)) := by
  obtain ⟨s, n0, H, T, len, hW, hC, hR⟩ := hO
  have hend : ¬ nI L - 5 < nI j := fun q => by
    have := (law_end hL (by omega)).mp q
    omega
  have s0 : sx L xs (nI j) = some (xs j) := sx_at rfl (by omega) hL
  have s1 : sx L xs (nI j + 1) = some (xs (j + 1)) := sx_at (nI_add j 1) (by omega) hL
  have s2 : sx L xs (nI j + 2) = some (xs (j + 2)) := sx_at (nI_add j 2) (by omega) hL
  have s3 : sx L xs (nI j + 3) = some (xs (j + 3)) := sx_at (nI_add j 3) (by omega) hL
  have c0 : ¬ (xs j &&& 31) = 0 := fun q => absurd (hc.symm.trans q) (by decide)
  have c1 : ¬ (xs j &&& 31) = 1 := fun q => absurd (hc.symm.trans q) (by decide)
  have c2 : ¬ (xs j &&& 31) = 2 := fun q => absurd (hc.symm.trans q) (by decide)
  have c3 : ¬ (xs j &&& 31) = 3 := fun q => absurd (hc.symm.trans q) (by decide)
  have c4 : ¬ (xs j &&& 31) = 4 := fun q => absurd (hc.symm.trans q) (by decide)
  have c5 : ¬ (xs j &&& 31) = 5 := fun q => absurd (hc.symm.trans q) (by decide)
  have c6 : ¬ (xs j &&& 31) = 6 := fun q => absurd (hc.symm.trans q) (by decide)
  have c7 : ¬ (xs j &&& 31) = 7 := fun q => absurd (hc.symm.trans q) (by decide)
  have c8 : ¬ (xs j &&& 31) = 8 := fun q => absurd (hc.symm.trans q) (by decide)
  have c9 : ¬ (xs j &&& 31) = 9 := fun q => absurd (hc.symm.trans q) (by decide)
  have c10 : ¬ (xs j &&& 31) = 10 := fun q => absurd (hc.symm.trans q) (by decide)
  have c11 : ¬ (xs j &&& 31) = 11 := fun q => absurd (hc.symm.trans q) (by decide)
  have c12 : ¬ (xs j &&& 31) = 12 := fun q => absurd (hc.symm.trans q) (by decide)
  have c13 : ¬ (xs j &&& 31) = 13 := fun q => absurd (hc.symm.trans q) (by decide)
  have c14 : ¬ (xs j &&& 31) = 14 := fun q => absurd (hc.symm.trans q) (by decide)
  have c15 : ¬ (xs j &&& 31) = 15 := fun q => absurd (hc.symm.trans q) (by decide)
  have e5 : nI j + 5 = nI (j + 5) := nI_add j 5
  obtain ⟨y, σ1, σ', h1, h5, h2, h3, h4⟩ := op_both hN hb hW hC hR (xs (j + 1)) (xs (j + 2)) (xs (j + 3))
  refine ⟨σ', ⟨s, n0, H, T, len, hW, h3, h4⟩, fun v0 => ?_⟩
  rw [m_L_law_L18, if_neg hend, s0, Option.bind_some, Option.bind_some, if_neg c0, if_neg c1, if_neg c2, if_neg c3, if_neg c4, if_neg c5, if_neg c6, if_neg c7, if_neg c8, if_neg c9, if_neg c10, if_neg c11, if_neg c12, if_neg c13, if_neg c14, if_neg c15, if_pos hc, s1, Option.bind_some, s2, Option.bind_some, s3, Option.bind_some, hC.o.1, Option.bind_some, h1, b2_some, Option.bind_some, Option.bind_some, Option.bind_some, h5, Option.bind_some, h2, b2_some, if_pos rfl, Option.bind_some, e5]
theorem st_undo {N b M L j n : Nat} {xs : Nat → Int32} {σ : zS} (hN : 7000 < N) (hb : b + 229 ≤ M) (hL : L ≤ 2560) (hj : j + 5 ≤ L) (hO : Ok2 σ b M) (hc : xs j &&& 31 = 17) : ∃ σ', Ok2 σ' b M ∧ ∀ v0, m_L_law_L18 L xs N (n + 1) σ v0 b M (nI j) = m_L_law_L18 L xs N n σ' v0 b M (nI (j + 5)) := by
  obtain ⟨s, n0, H, T, len, hW, hC, hR⟩ := hO
  have hend : ¬ nI L - 5 < nI j := fun q => by
    have := (law_end hL (by omega)).mp q
    omega
  have s0 : sx L xs (nI j) = some (xs j) := sx_at rfl (by omega) hL
  have c0 : ¬ (xs j &&& 31) = 0 := fun q => absurd (hc.symm.trans q) (by decide)
  have c1 : ¬ (xs j &&& 31) = 1 := fun q => absurd (hc.symm.trans q) (by decide)
  have c2 : ¬ (xs j &&& 31) = 2 := fun q => absurd (hc.symm.trans q) (by decide)
  have c3 : ¬ (xs j &&& 31) = 3 := fun q => absurd (hc.symm.trans q) (by decide)
  have c4 : ¬ (xs j &&& 31) = 4 := fun q => absurd (hc.symm.trans q) (by decide)
  have c5 : ¬ (xs j &&& 31) = 5 := fun q => absurd (hc.symm.trans q) (by decide)
  have c6 : ¬ (xs j &&& 31) = 6 := fun q => absurd (hc.symm.trans q) (by decide)
  have c7 : ¬ (xs j &&& 31) = 7 := fun q => absurd (hc.symm.trans q) (by decide)
  have c8 : ¬ (xs j &&& 31) = 8 := fun q => absurd (hc.symm.trans q) (by decide)
  have c9 : ¬ (xs j &&& 31) = 9 := fun q => absurd (hc.symm.trans q) (by decide)
  have c10 : ¬ (xs j &&& 31) = 10 := fun q => absurd (hc.symm.trans q) (by decide)
  have c11 : ¬ (xs j &&& 31) = 11 := fun q => absurd (hc.symm.trans q) (by decide)
  have c12 : ¬ (xs j &&& 31) = 12 := fun q => absurd (hc.symm.trans q) (by decide)
  have c13 : ¬ (xs j &&& 31) = 13 := fun q => absurd (hc.symm.trans q) (by decide)
  have c14 : ¬ (xs j &&& 31) = 14 := fun q => absurd (hc.symm.trans q) (by decide)
  have c15 : ¬ (xs j &&& 31) = 15 := fun q => absurd (hc.symm.trans q) (by decide)
  have c16 : ¬ (xs j &&& 31) = 16 := fun q => absurd (hc.symm.trans q) (by decide)
  have e5 : nI j + 5 = nI (j + 5) := nI_add j 5
  obtain ⟨y, σ1, σ', s', n', H', T', len', h1, h5, h2, h6, h7, h8⟩ := (op_undo hN hb hW hC hR).t
  have h1' : m_X8_undo N σ b = some (y, σ1) := h1
  have h2' : m_X9_undo N σ1 M = some (y, σ') := h2
  refine ⟨σ', ⟨s', n', H', T', len', h6, h7, h8⟩, fun v0 => ?_⟩
  rw [m_L_law_L18, if_neg hend, s0, Option.bind_some, Option.bind_some, if_neg c0, if_neg c1, if_neg c2, if_neg c3, if_neg c4, if_neg c5, if_neg c6, if_neg c7, if_neg c8, if_neg c9, if_neg c10, if_neg c11, if_neg c12, if_neg c13, if_neg c14, if_neg c15, if_neg c16, if_pos hc, hC.o.1, Option.bind_some, h1', b2_some, h5, Option.bind_some, h2', b2_some, if_pos rfl, Option.bind_some, e5]
theorem st_type {N b M L j n : Nat} {xs : Nat → Int32} {σ : zS} (hN : 7000 < N) (hb : b + 229 ≤ M) (hL : L ≤ 2560) (hj : j + 5 ≤ L) (hO : Ok2 σ b M) (hc : xs j &&& 31 = 18) : ∃ σ', Ok2 σ' b M ∧ ∀ v0, m_L_law_L18 L xs N (n + 1) σ v0 b M (nI j) = m_L_law_L18 L xs N n σ' v0 b M (nI (j + 5)) := by
  obtain ⟨s, n0, H, T, len, hW, hC, hR⟩ := hO
  have hend : ¬ nI L - 5 < nI j := fun q => by
    have := (law_end hL (by omega)).mp q
    omega
  have s0 : sx L xs (nI j) = some (xs j) := sx_at rfl (by omega) hL
  have s1 : sx L xs (nI j + 1) = some (xs (j + 1)) := sx_at (nI_add j 1) (by omega) hL
  have c0 : ¬ (xs j &&& 31) = 0 := fun q => absurd (hc.symm.trans q) (by decide)
  have c1 : ¬ (xs j &&& 31) = 1 := fun q => absurd (hc.symm.trans q) (by decide)
  have c2 : ¬ (xs j &&& 31) = 2 := fun q => absurd (hc.symm.trans q) (by decide)
  have c3 : ¬ (xs j &&& 31) = 3 := fun q => absurd (hc.symm.trans q) (by decide)
  have c4 : ¬ (xs j &&& 31) = 4 := fun q => absurd (hc.symm.trans q) (by decide)
  have c5 : ¬ (xs j &&& 31) = 5 := fun q => absurd (hc.symm.trans q) (by decide)
  have c6 : ¬ (xs j &&& 31) = 6 := fun q => absurd (hc.symm.trans q) (by decide)
  have c7 : ¬ (xs j &&& 31) = 7 := fun q => absurd (hc.symm.trans q) (by decide)
  have c8 : ¬ (xs j &&& 31) = 8 := fun q => absurd (hc.symm.trans q) (by decide)
  have c9 : ¬ (xs j &&& 31) = 9 := fun q => absurd (hc.symm.trans q) (by decide)
  have c10 : ¬ (xs j &&& 31) = 10 := fun q => absurd (hc.symm.trans q) (by decide)
  have c11 : ¬ (xs j &&& 31) = 11 := fun q => absurd (hc.symm.trans q) (by decide)
  have c12 : ¬ (xs j &&& 31) = 12 := fun q => absurd (hc.symm.trans q) (by decide)
  have c13 : ¬ (xs j &&& 31) = 13 := fun q => absurd (hc.symm.trans q) (by decide)
  have c14 : ¬ (xs j &&& 31) = 14 := fun q => absurd (hc.symm.trans q) (by decide)
  have c15 : ¬ (xs j &&& 31) = 15 := fun q => absurd (hc.symm.trans q) (by decide)
  have c16 : ¬ (xs j &&& 31) = 16 := fun q => absurd (hc.symm.trans q) (by decide)
  have c17 : ¬ (xs j &&& 31) = 17 := fun q => absurd (hc.symm.trans q) (by decide)
  have e5 : nI j + 5 = nI (j + 5) := nI_add j 5
  obtain ⟨y, σ1, σ', s', n', H', T', len', h1, h5, h2, h6, h7, h8⟩ := (op_type hb hW hC hR (xs (j + 1)))
  have h1' : m_X8_type N σ b (xs (j + 1)) = some (y, σ1) := h1
  have h2' : m_X9_type N σ1 M (xs (j + 1)) = some (y, σ') := h2
  refine ⟨σ', ⟨s', n', H', T', len', h6, h7, h8⟩, fun v0 => ?_⟩
  rw [m_L_law_L18, if_neg hend, s0, Option.bind_some, Option.bind_some, if_neg c0, if_neg c1, if_neg c2, if_neg c3, if_neg c4, if_neg c5, if_neg c6, if_neg c7, if_neg c8, if_neg c9, if_neg c10, if_neg c11, if_neg c12, if_neg c13, if_neg c14, if_neg c15, if_neg c16, if_neg c17, if_pos hc, s1, Option.bind_some, hC.o.1, Option.bind_some, h1', b2_some, Option.bind_some, h5, Option.bind_some, h2', b2_some, if_pos rfl, Option.bind_some, e5]
theorem st_clearText {N b M L j n : Nat} {xs : Nat → Int32} {σ : zS} (hN : 7000 < N) (hb : b + 229 ≤ M) (hL : L ≤ 2560) (hj : j + 5 ≤ L) (hO : Ok2 σ b M) (hc : xs j &&& 31 = 19) : ∃ σ', Ok2 σ' b M ∧ ∀ v0, m_L_law_L18 L xs N (n + 1) σ v0 b M (nI j) = m_L_law_L18 L xs N n σ' v0 b M (nI (j + 5)) := by
  obtain ⟨s, n0, H, T, len, hW, hC, hR⟩ := hO
  have hend : ¬ nI L - 5 < nI j := fun q => by
    have := (law_end hL (by omega)).mp q
    omega
  have s0 : sx L xs (nI j) = some (xs j) := sx_at rfl (by omega) hL
  have c0 : ¬ (xs j &&& 31) = 0 := fun q => absurd (hc.symm.trans q) (by decide)
  have c1 : ¬ (xs j &&& 31) = 1 := fun q => absurd (hc.symm.trans q) (by decide)
  have c2 : ¬ (xs j &&& 31) = 2 := fun q => absurd (hc.symm.trans q) (by decide)
  have c3 : ¬ (xs j &&& 31) = 3 := fun q => absurd (hc.symm.trans q) (by decide)
  have c4 : ¬ (xs j &&& 31) = 4 := fun q => absurd (hc.symm.trans q) (by decide)
  have c5 : ¬ (xs j &&& 31) = 5 := fun q => absurd (hc.symm.trans q) (by decide)
  have c6 : ¬ (xs j &&& 31) = 6 := fun q => absurd (hc.symm.trans q) (by decide)
  have c7 : ¬ (xs j &&& 31) = 7 := fun q => absurd (hc.symm.trans q) (by decide)
  have c8 : ¬ (xs j &&& 31) = 8 := fun q => absurd (hc.symm.trans q) (by decide)
  have c9 : ¬ (xs j &&& 31) = 9 := fun q => absurd (hc.symm.trans q) (by decide)
  have c10 : ¬ (xs j &&& 31) = 10 := fun q => absurd (hc.symm.trans q) (by decide)
  have c11 : ¬ (xs j &&& 31) = 11 := fun q => absurd (hc.symm.trans q) (by decide)
  have c12 : ¬ (xs j &&& 31) = 12 := fun q => absurd (hc.symm.trans q) (by decide)
  have c13 : ¬ (xs j &&& 31) = 13 := fun q => absurd (hc.symm.trans q) (by decide)
  have c14 : ¬ (xs j &&& 31) = 14 := fun q => absurd (hc.symm.trans q) (by decide)
  have c15 : ¬ (xs j &&& 31) = 15 := fun q => absurd (hc.symm.trans q) (by decide)
  have c16 : ¬ (xs j &&& 31) = 16 := fun q => absurd (hc.symm.trans q) (by decide)
  have c17 : ¬ (xs j &&& 31) = 17 := fun q => absurd (hc.symm.trans q) (by decide)
  have c18 : ¬ (xs j &&& 31) = 18 := fun q => absurd (hc.symm.trans q) (by decide)
  have e5 : nI j + 5 = nI (j + 5) := nI_add j 5
  obtain ⟨y, σ1, σ', s', n', H', T', len', h1, h5, h2, h6, h7, h8⟩ := (op_clearText hb hW hC hR)
  have h1' : m_X8_clearText N σ b = some (y, σ1) := h1
  have h2' : m_X9_clearText N σ1 M = some (y, σ') := h2
  refine ⟨σ', ⟨s', n', H', T', len', h6, h7, h8⟩, fun v0 => ?_⟩
  rw [m_L_law_L18, if_neg hend, s0, Option.bind_some, Option.bind_some, if_neg c0, if_neg c1, if_neg c2, if_neg c3, if_neg c4, if_neg c5, if_neg c6, if_neg c7, if_neg c8, if_neg c9, if_neg c10, if_neg c11, if_neg c12, if_neg c13, if_neg c14, if_neg c15, if_neg c16, if_neg c17, if_neg c18, if_pos hc, hC.o.1, Option.bind_some, h1', b2_some, h5, Option.bind_some, h2', b2_some, if_pos rfl, Option.bind_some, e5]
theorem st_fault {N b M L j n : Nat} {xs : Nat → Int32} {σ : zS} (hN : 7000 < N) (hb : b + 229 ≤ M) (hL : L ≤ 2560) (hj : j + 5 ≤ L) (hO : Ok2 σ b M) (hc : xs j &&& 31 = 20) : ∃ σ', Ok2 σ' b M ∧ ∀ v0, m_L_law_L18 L xs N (n + 1) σ v0 b M (nI j) = m_L_law_L18 L xs N n σ' v0 b M (nI (j + 5)) := by
  obtain ⟨s, n0, H, T, len, hW, hC, hR⟩ := hO
  have hend : ¬ nI L - 5 < nI j := fun q => by
    have := (law_end hL (by omega)).mp q
    omega
  have s0 : sx L xs (nI j) = some (xs j) := sx_at rfl (by omega) hL
  have s1 : sx L xs (nI j + 1) = some (xs (j + 1)) := sx_at (nI_add j 1) (by omega) hL
  have c0 : ¬ (xs j &&& 31) = 0 := fun q => absurd (hc.symm.trans q) (by decide)
  have c1 : ¬ (xs j &&& 31) = 1 := fun q => absurd (hc.symm.trans q) (by decide)
  have c2 : ¬ (xs j &&& 31) = 2 := fun q => absurd (hc.symm.trans q) (by decide)
  have c3 : ¬ (xs j &&& 31) = 3 := fun q => absurd (hc.symm.trans q) (by decide)
  have c4 : ¬ (xs j &&& 31) = 4 := fun q => absurd (hc.symm.trans q) (by decide)
  have c5 : ¬ (xs j &&& 31) = 5 := fun q => absurd (hc.symm.trans q) (by decide)
  have c6 : ¬ (xs j &&& 31) = 6 := fun q => absurd (hc.symm.trans q) (by decide)
  have c7 : ¬ (xs j &&& 31) = 7 := fun q => absurd (hc.symm.trans q) (by decide)
  have c8 : ¬ (xs j &&& 31) = 8 := fun q => absurd (hc.symm.trans q) (by decide)
  have c9 : ¬ (xs j &&& 31) = 9 := fun q => absurd (hc.symm.trans q) (by decide)
  have c10 : ¬ (xs j &&& 31) = 10 := fun q => absurd (hc.symm.trans q) (by decide)
  have c11 : ¬ (xs j &&& 31) = 11 := fun q => absurd (hc.symm.trans q) (by decide)
  have c12 : ¬ (xs j &&& 31) = 12 := fun q => absurd (hc.symm.trans q) (by decide)
  have c13 : ¬ (xs j &&& 31) = 13 := fun q => absurd (hc.symm.trans q) (by decide)
  have c14 : ¬ (xs j &&& 31) = 14 := fun q => absurd (hc.symm.trans q) (by decide)
  have c15 : ¬ (xs j &&& 31) = 15 := fun q => absurd (hc.symm.trans q) (by decide)
  have c16 : ¬ (xs j &&& 31) = 16 := fun q => absurd (hc.symm.trans q) (by decide)
  have c17 : ¬ (xs j &&& 31) = 17 := fun q => absurd (hc.symm.trans q) (by decide)
  have c18 : ¬ (xs j &&& 31) = 18 := fun q => absurd (hc.symm.trans q) (by decide)
  have c19 : ¬ (xs j &&& 31) = 19 := fun q => absurd (hc.symm.trans q) (by decide)
  have e5 : nI j + 5 = nI (j + 5) := nI_add j 5
  obtain ⟨y, σ1, σ', s', n', H', T', len', h1, h5, h2, h6, h7, h8⟩ := (op_fault hN hb hW hC hR (xs (j + 1)))
  have h1' : m_X8_fault N σ b (xs (j + 1)) = some (y, σ1) := h1
  have h2' : m_X9_fault N σ1 M (xs (j + 1)) = some (y, σ') := h2
  refine ⟨σ', ⟨s', n', H', T', len', h6, h7, h8⟩, fun v0 => ?_⟩
  rw [m_L_law_L18, if_neg hend, s0, Option.bind_some, Option.bind_some, if_neg c0, if_neg c1, if_neg c2, if_neg c3, if_neg c4, if_neg c5, if_neg c6, if_neg c7, if_neg c8, if_neg c9, if_neg c10, if_neg c11, if_neg c12, if_neg c13, if_neg c14, if_neg c15, if_neg c16, if_neg c17, if_neg c18, if_neg c19, if_pos hc, s1, Option.bind_some, hC.o.1, Option.bind_some, h1', b2_some, Option.bind_some, h5, Option.bind_some, h2', b2_some, if_pos rfl, Option.bind_some, e5]
theorem st_play {N b M L j n : Nat} {xs : Nat → Int32} {σ : zS} (hN : 7000 < N) (hb : b + 229 ≤ M) (hL : L ≤ 2560) (hj : j + 5 ≤ L) (hO : Ok2 σ b M) (hc : xs j &&& 31 = 21) : ∃ σ', Ok2 σ' b M ∧ ∀ v0, m_L_law_L18 L xs N (n + 1) σ v0 b M (nI j) = m_L_law_L18 L xs N n σ' v0 b M (nI (j + 5)) := by
  obtain ⟨s, n0, H, T, len, hW, hC, hR⟩ := hO
  have hend : ¬ nI L - 5 < nI j := fun q => by
    have := (law_end hL (by omega)).mp q
    omega
  have s0 : sx L xs (nI j) = some (xs j) := sx_at rfl (by omega) hL
  have c0 : ¬ (xs j &&& 31) = 0 := fun q => absurd (hc.symm.trans q) (by decide)
  have c1 : ¬ (xs j &&& 31) = 1 := fun q => absurd (hc.symm.trans q) (by decide)
  have c2 : ¬ (xs j &&& 31) = 2 := fun q => absurd (hc.symm.trans q) (by decide)
  have c3 : ¬ (xs j &&& 31) = 3 := fun q => absurd (hc.symm.trans q) (by decide)
  have c4 : ¬ (xs j &&& 31) = 4 := fun q => absurd (hc.symm.trans q) (by decide)
  have c5 : ¬ (xs j &&& 31) = 5 := fun q => absurd (hc.symm.trans q) (by decide)
  have c6 : ¬ (xs j &&& 31) = 6 := fun q => absurd (hc.symm.trans q) (by decide)
  have c7 : ¬ (xs j &&& 31) = 7 := fun q => absurd (hc.symm.trans q) (by decide)
  have c8 : ¬ (xs j &&& 31) = 8 := fun q => absurd (hc.symm.trans q) (by decide)
  have c9 : ¬ (xs j &&& 31) = 9 := fun q => absurd (hc.symm.trans q) (by decide)
  have c10 : ¬ (xs j &&& 31) = 10 := fun q => absurd (hc.symm.trans q) (by decide)
  have c11 : ¬ (xs j &&& 31) = 11 := fun q => absurd (hc.symm.trans q) (by decide)
  have c12 : ¬ (xs j &&& 31) = 12 := fun q => absurd (hc.symm.trans q) (by decide)
  have c13 : ¬ (xs j &&& 31) = 13 := fun q => absurd (hc.symm.trans q) (by decide)
  have c14 : ¬ (xs j &&& 31) = 14 := fun q => absurd (hc.symm.trans q) (by decide)
  have c15 : ¬ (xs j &&& 31) = 15 := fun q => absurd (hc.symm.trans q) (by decide)
  have c16 : ¬ (xs j &&& 31) = 16 := fun q => absurd (hc.symm.trans q) (by decide)
  have c17 : ¬ (xs j &&& 31) = 17 := fun q => absurd (hc.symm.trans q) (by decide)
  have c18 : ¬ (xs j &&& 31) = 18 := fun q => absurd (hc.symm.trans q) (by decide)
  have c19 : ¬ (xs j &&& 31) = 19 := fun q => absurd (hc.symm.trans q) (by decide)
  have c20 : ¬ (xs j &&& 31) = 20 := fun q => absurd (hc.symm.trans q) (by decide)
  have e5 : nI j + 5 = nI (j + 5) := nI_add j 5
  obtain ⟨y, σ1, σ', s', n', H', T', len', h1, h5, h2, h6, h7, h8⟩ := (op_play hN hb hW hC hR)
  have h1' : m_X8_play N σ b = some (y, σ1) := h1
  have h2' : m_X9_play N σ1 M = some (y, σ') := h2
  refine ⟨σ', ⟨s', n', H', T', len', h6, h7, h8⟩, fun v0 => ?_⟩
  rw [m_L_law_L18, if_neg hend, s0, Option.bind_some, Option.bind_some, if_neg c0, if_neg c1, if_neg c2, if_neg c3, if_neg c4, if_neg c5, if_neg c6, if_neg c7, if_neg c8, if_neg c9, if_neg c10, if_neg c11, if_neg c12, if_neg c13, if_neg c14, if_neg c15, if_neg c16, if_neg c17, if_neg c18, if_neg c19, if_neg c20, if_pos hc, hC.o.1, Option.bind_some, h1', b2_some, h5, Option.bind_some, h2', b2_some, if_pos rfl, Option.bind_some, e5]
theorem st_none {N b M L j n : Nat} {xs : Nat → Int32} {σ : zS} (hL : L ≤ 2560) (hj : j + 5 ≤ L) (hO : Ok2 σ b M) (c0 : ¬ (xs j &&& 31) = 0) (c1 : ¬ (xs j &&& 31) = 1) (c2 : ¬ (xs j &&& 31) = 2) (c3 : ¬ (xs j &&& 31) = 3) (c4 : ¬ (xs j &&& 31) = 4) (c5 : ¬ (xs j &&& 31) = 5) (c6 : ¬ (xs j &&& 31) = 6) (c7 : ¬ (xs j &&& 31) = 7) (c8 : ¬ (xs j &&& 31) = 8) (c9 : ¬ (xs j &&& 31) = 9) (c10 : ¬ (xs j &&& 31) = 10) (c11 : ¬ (xs j &&& 31) = 11) (c12 : ¬ (xs j &&& 31) = 12) (c13 : ¬ (xs j &&& 31) = 13) (c14 : ¬ (xs j &&& 31) = 14) (c15 : ¬ (xs j &&& 31) = 15) (c16 : ¬ (xs j &&& 31) = 16) (c17 : ¬ (xs j &&& 31) = 17) (c18 : ¬ (xs j &&& 31) = 18) (c19 : ¬ (xs j &&& 31) = 19) (c20 : ¬ (xs j &&& 31) = 20) (c21 : ¬ (xs j &&& 31) = 21) : ∃ σ', Ok2 σ' b M ∧ ∀ v0, m_L_law_L18 L xs N (n + 1) σ v0 b M (nI j) = m_L_law_L18 L xs N n σ' v0 b M (nI (j + 5)) := by
  have hend : ¬ nI L - 5 < nI j := fun q => by
    have := (law_end hL (by omega)).mp q
    omega
  have s0 : sx L xs (nI j) = some (xs j) := sx_at rfl (by omega) hL
  have e5 : nI j + 5 = nI (j + 5) := nI_add j 5
  refine ⟨σ, hO, fun v0 => ?_⟩
  rw [m_L_law_L18, if_neg hend, s0, Option.bind_some, Option.bind_some, if_neg c0, if_neg c1, if_neg c2, if_neg c3, if_neg c4, if_neg c5, if_neg c6, if_neg c7, if_neg c8, if_neg c9, if_neg c10, if_neg c11, if_neg c12, if_neg c13, if_neg c14, if_neg c15, if_neg c16, if_neg c17, if_neg c18, if_neg c19, if_neg c20, if_neg c21, Option.bind_some, e5]
theorem st_any {N b M L j n : Nat} {xs : Nat → Int32} {σ : zS} (hN : 7000 < N) (hb : b + 229 ≤ M) (hL : L ≤ 2560) (hj : j + 5 ≤ L) (hO : Ok2 σ b M) : ∃ σ', Ok2 σ' b M ∧ ∀ v0, m_L_law_L18 L xs N (n + 1) σ v0 b M (nI j) = m_L_law_L18 L xs N n σ' v0 b M (nI (j + 5)) := by
  by_cases c0 : (xs j &&& 31) = 0
  · exact st_table hN hb hL hj hO c0
  by_cases c1 : (xs j &&& 31) = 1
  · exact st_add hN hb hL hj hO c1
  by_cases c2 : (xs j &&& 31) = 2
  · exact st_addRow hN hb hL hj hO c2
  by_cases c3 : (xs j &&& 31) = 3
  · exact st_merge hN hb hL hj hO c3
  by_cases c4 : (xs j &&& 31) = 4
  · exact st_reset hN hb hL hj hO c4
  by_cases c5 : (xs j &&& 31) = 5
  · exact st_tableOf hN hb hL hj hO c5
  by_cases c6 : (xs j &&& 31) = 6
  · exact st_keptAt hN hb hL hj hO c6
  by_cases c7 : (xs j &&& 31) = 7
  · exact st_sawAt hN hb hL hj hO c7
  by_cases c8 : (xs j &&& 31) = 8
  · exact st_hash hN hb hL hj hO c8
  by_cases c9 : (xs j &&& 31) = 9
  · exact st_has hN hb hL hj hO c9
  by_cases c10 : (xs j &&& 31) = 10
  · exact st_logAt hN hb hL hj hO c10
  by_cases c11 : (xs j &&& 31) = 11
  · exact st_count hN hb hL hj hO c11
  by_cases c12 : (xs j &&& 31) = 12
  · exact st_errorBits hN hb hL hj hO c12
  by_cases c13 : (xs j &&& 31) = 13
  · exact st_byError hN hb hL hj hO c13
  by_cases c14 : (xs j &&& 31) = 14
  · exact st_would hN hb hL hj hO c14
  by_cases c15 : (xs j &&& 31) = 15
  · exact st_raises hN hb hL hj hO c15
  by_cases c16 : (xs j &&& 31) = 16
  · exact st_both hN hb hL hj hO c16
  by_cases c17 : (xs j &&& 31) = 17
  · exact st_undo hN hb hL hj hO c17
  by_cases c18 : (xs j &&& 31) = 18
  · exact st_type hN hb hL hj hO c18
  by_cases c19 : (xs j &&& 31) = 19
  · exact st_clearText hN hb hL hj hO c19
  by_cases c20 : (xs j &&& 31) = 20
  · exact st_fault hN hb hL hj hO c20
  by_cases c21 : (xs j &&& 31) = 21
  · exact st_play hN hb hL hj hO c21
  exact st_none hL hj hO c0 c1 c2 c3 c4 c5 c6 c7 c8 c9 c10 c11 c12 c13 c14 c15 c16 c17 c18 c19 c20 c21
theorem law_loop {N b M L : Nat} {xs : Nat → Int32} (hN : 7000 < N) (hb : b + 229 ≤ M) (hL : L ≤ 2560) : ∀ d j n (σ : zS), L ≤ j + 5 * d → j ≤ 10000 → d < n → Ok2 σ b M → ∃ σ5, ∀ v0, m_L_law_L18 L xs N n σ v0 b M (nI j) = some (.inr σ5) := by
  intro d
  induction d with
  | zero =>
    intro j n σ h1 h2 h3 hO
    obtain ⟨n, rfl⟩ : ∃ m, n = m + 1 := ⟨n - 1, by omega⟩
    refine ⟨σ, fun v0 => ?_⟩
    rw [m_L_law_L18, if_pos ((law_end hL (by omega)).mpr (by omega))]
  | succ d ih =>
    intro j n σ h1 h2 h3 hO
    obtain ⟨n, rfl⟩ : ∃ m, n = m + 1 := ⟨n - 1, by omega⟩
    by_cases c : L < j + 5
    · refine ⟨σ, fun v0 => ?_⟩
      rw [m_L_law_L18, if_pos ((law_end hL (by omega)).mpr c)]
    · obtain ⟨σ', h4, h5⟩ := st_any (j := j) (n := n) (xs := xs) hN hb hL (by omega) hO
      obtain ⟨σ5, h6⟩ := ih (j + 5) n σ' (by omega) (by omega) (by omega) h4
      exact ⟨σ5, fun v0 => (h5 v0).trans (h6 v0)⟩
