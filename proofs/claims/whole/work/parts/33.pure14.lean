/-! Pure, 14: a new table, both sides -/
theorem fill_L {N q n0 : Nat} {c : Int32} (hn0 : n0 < 100000) : ∀ d j n (σ : zS) (f : Nat → Int32), σ q = some (.inl (1, n0, .inl f)) → j + d = n0 → d < n → ∃ f' : Nat → Int32, m_J7_fill_53178_L5 N n σ q c (nI j) (nI n0) = some (zup σ q (.inl (1, n0, .inl f'))) ∧ (∀ k, j ≤ k → k < n0 → f' k = c) ∧ ∀ k, k < j → f' k = f k := by
  intro d
  induction d with
  | zero =>
    intro j n σ f h hj hn
    obtain ⟨n, rfl⟩ : ∃ m, n = m + 1 := ⟨n - 1, by omega⟩
    rw [m_J7_fill_53178_L5, if_pos (nI_le (by omega) (by omega))]
    exact ⟨f, by rw [zup_id h], fun k h1 h2 => by omega, fun _ _ => rfl⟩
  | succ d ih =>
    intro j n σ f h hj hn
    obtain ⟨n, rfl⟩ : ∃ m, n = m + 1 := ⟨n - 1, by omega⟩
    obtain ⟨f', e1, e2, e3⟩ := ih (j + 1) n (zup σ q (.inl (1, n0, .inl (upd f j c)))) _ (zup_same _ _ _) (by omega) (by omega)
    rw [zup_zup] at e1
    rw [m_J7_fill_53178_L5, if_neg (nI_ge (by omega) (by omega)), uI_at h rfl (by omega) (by omega), Option.bind_some, Option.bind_some, nI_1, e1]
    refine ⟨f', rfl, fun k h1 h2 => ?_, fun k hk => ?_⟩
    · by_cases ck : k = j
      · rw [ck, e3 j (by omega), upd_same]
      · exact e2 k (by omega) h2
    · rw [e3 k (by omega), upd_ne _ _ (by omega)]
theorem fill_at {N q n0 : Nat} {c : Int32} {σ : zS} {f : Nat → Int32} (hn0 : n0 < 100000) (hN : n0 < N) (h : σ q = some (.inl (1, n0, .inl f))) : ∃ f' : Nat → Int32, m_J7_fill_53178 N σ q c = some (zup σ q (.inl (1, n0, .inl f'))) ∧ ∀ k, k < n0 → f' k = c := by
  obtain ⟨f', e1, e2, -⟩ := fill_L (N := N) (c := c) hn0 n0 0 N σ f h (Nat.zero_add _) hN
  unfold m_J7_fill_53178
  rw [aL_at h, Option.bind_some, show (0 : Int32) = nI 0 from rfl, e1, Option.bind_some]
  exact ⟨f', rfl, fun k hk => e2 k (Nat.zero_le _) hk⟩
def zrR (k sd rs : Int32) : Nat → Int32 := fun j => if j = 0 then k else if j = 1 then sd else if j = 3 then rs else 0
theorem zrR_0 (k sd rs : Int32) {j : Nat} (h : j ≠ 0) (h1 : j ≠ 1) (h3 : j ≠ 3) : zrR k sd rs j = 0 := by
  unfold zrR
  rw [if_neg h, if_neg h1, if_neg h3]
theorem zrR_3 (k sd rs : Int32) : zrR k sd rs 3 = rs := by
  unfold zrR
  rw [if_neg (by decide), if_neg (by decide), if_pos rfl]
theorem zrR_1 (k sd rs : Int32) : zrR k sd rs 1 = sd := by
  unfold zrR
  rw [if_neg (by decide), if_pos rfl]
theorem WT_zr {t k sd : Nat} (rs : Int32) (hk : k ≤ 2) (hs : sd ≤ 9) : WT t (zrR (nI k) (nI sd) rs) (fun _ => 0) := by
  have e : ∀ j, j ≠ 0 → j ≠ 1 → j ≠ 3 → zrR (nI k) (nI sd) rs j = nI 0 := fun j a b c => zrR_0 _ _ _ a b c
  have hr : rW (zrR (nI k) (nI sd) rs) := by
    refine ⟨?_, ⟨sd, hs, zrR_1 _ _ _⟩, ⟨0, by omega, e 2 (by omega) (by omega) (by omega)⟩, ⟨0, by omega, e 5 (by omega) (by omega) (by omega)⟩, fun j hj => ⟨0, by omega, e _ (by omega) (by omega) (by omega)⟩, fun j hj => ⟨0, by omega, e _ (by omega) (by omega) (by omega)⟩⟩
    have : k = 0 ∨ k = 1 ∨ k = 2 := by omega
    show nI k = 0 ∨ nI k = 1 ∨ nI k = 2
    rcases this with rfl | rfl | rfl
    · exact Or.inl rfl
    · exact Or.inr (Or.inl rfl)
    · exact Or.inr (Or.inr rfl)
  have hl : lowN (zrR (nI k) (nI sd) rs) = 0 := by
    have f0 : fcN (zrR (nI k) (nI sd) rs) = 0 := nS_zero 8 0 (fun i _ _ => by rw [e (14 + i) (by omega) (by omega) (by omega), if_pos (by decide)])
    have k0 : ktN (zrR (nI k) (nI sd) rs) = 0 := ktN_of (e 5 (by omega) (by omega) (by omega)) (by omega)
    have b0 : bN (zrR (nI k) (nI sd) rs 4) = 0 := by
      rw [e 4 (by omega) (by omega) (by omega)]
      decide
    unfold lowN
    rw [f0, k0, b0]
    split
    · rfl
    · split <;> rfl
  refine ⟨⟨hr, by rw [hl]; exact Nat.zero_le _⟩, ?_, fun x hx => ⟨0, Nat.zero_le _, rfl⟩⟩
  rw [e 22 (by omega) (by omega) (by omega)]
  have : cntG (fun _ => (0 : Int32)) = 0 := nS_zero 1000 0 (fun x _ _ => if_pos (show (0 : Int32) ≤ 0 by decide))
  rw [this]
theorem X3_begin {N : Nat} {σ : zS} {q : Nat} {r0 : Nat → Int32} {k sd : Int32} (rs : Int32) (hN : 50 < N) (h : Sk σ q r0) : ∃ σ', m_X3_begin N σ q k sd = some σ' ∧ SU σ q (zrR k sd rs) σ' := by
  obtain ⟨hs, rg, a1, a2, a3, -, -⟩ := h
  unfold m_X3_begin
  rw [sI_at a1 (Nat.le_of_ble_eq_true rfl), Option.bind_some, sI_at (zup_same _ _ _) (Nat.le_of_ble_eq_true rfl), Option.bind_some, zup_zup, sI_at (zup_same _ _ _) (Nat.le_of_ble_eq_true rfl), Option.bind_some, zup_zup, sI_at (zup_same _ _ _) (Nat.le_of_ble_eq_true rfl), Option.bind_some, zup_zup, sI_at (zup_same _ _ _) (Nat.le_of_ble_eq_true rfl), Option.bind_some, zup_zup, gA_at (zup_same _ _ _) rfl, Option.bind_some]
  generalize hσ : zup σ q _ = σ5
  have q5 : σ5 q = some (.inr (3, [.int k, .int sd, .int 0, .int 0, .int 0, .ref (q + 1), .ref (q + 2)])) := by rw [← hσ, zup_same]; rfl
  have o5 : ∀ x, x ≠ q → σ5 x = σ x := fun x hx => by rw [← hσ, zup_ne _ _ hx]
  obtain ⟨f1, e1, e2⟩ := fill_at (N := N) (c := 0) (by decide) (by omega) (show σ5 (q + 1) = _ from (o5 _ (by omega)).trans a2)
  rw [e1, Option.bind_some, gA_at (show zup σ5 (q + 1) _ q = some _ by rw [zup_ne _ _ (by omega)]; exact q5) rfl, Option.bind_some]
  obtain ⟨f2, e3, e4⟩ := fill_at (N := N) (c := 0) (σ := zup σ5 (q + 1) (.inl (1, 8, .inl f1))) (q := q + 2) (n0 := 8) (f := rg) (by decide) (by omega) (by rw [zup_ne _ _ (by omega), o5 _ (by omega)]; exact a3)
  rw [e3, Option.bind_some]
  refine ⟨_, rfl, ⟨f1, f2, ?_, ?_, ?_, fun j hj hlt => ?_, fun j hj => ?_⟩, fun x hx => ?_⟩
  · rw [zup_ne _ _ (by omega), zup_ne _ _ (by omega), q5, zrR_1, zrR_0 _ _ _ (j := 2) (by decide) (by decide) (by decide), zrR_0 _ _ _ (j := 4) (by decide) (by decide) (by decide), zrR_0 _ _ _ (j := 5) (by decide) (by decide) (by decide)]
    rfl
  · rw [zup_ne _ _ (by omega), zup_same]
  · rw [zup_same]
  · rw [e2 j hj, zrR_0 _ _ _ (by omega) (by omega) (by omega)]
  · rw [e4 j hj, zrR_0 _ _ _ (by omega) (by omega) (by omega)]
  · rw [zup_ne _ _ (by omega), zup_ne _ _ (by omega), o5 _ (by omega)]
theorem X5_begin {N : Nat} {σ : zS} {q : Nat} {r0 g0 : Nat → Int32} {k sd : Int32} (hN : 1050 < N) (h : Tb σ q r0 g0) : ∃ σ', m_X5_begin N σ q k sd = some σ' ∧ Tb σ' q (zrR k sd 0) (fun _ => 0) ∧ ∀ x, (x < q ∨ q + 5 ≤ x) → σ' x = σ x := by
  have o := h.o
  obtain ⟨h1, h2, f, h3, h4⟩ := h
  obtain ⟨σ1, e1, u1⟩ := X3_begin (N := N) (k := k) (sd := sd) 0 (by omega) h2
  have q1 : σ1 q = σ q := u1.2 _ (by omega)
  obtain ⟨f1, e2, e3⟩ := fill_at (N := N) (c := -1) (by decide) (by omega) (show σ1 (q + 4) = _ from (u1.2 _ (by omega)).trans h3)
  unfold m_X5_begin
  rw [o.2.1, Option.bind_some, o.2.2.2.2.2, Option.bind_some, e1, Option.bind_some, gA_at (q1.trans h1) rfl, Option.bind_some, e2, Option.bind_some, sI_at (show zup σ1 (q + 4) _ q = some _ by rw [zup_ne _ _ (by omega)]; exact q1.trans h1) (Nat.le_of_ble_eq_true rfl), Option.bind_some, sI_at (zup_same _ _ _) (Nat.le_of_ble_eq_true rfl), Option.bind_some, zup_zup]
  refine ⟨_, rfl, ⟨?_, u1.1.keep (fun x _ _ => by rw [zup_ne _ _ (by omega), zup_ne _ _ (by omega)]), f1, by rw [zup_ne _ _ (by omega), zup_same], fun x hx => ?_⟩, fun x hx => by rw [zup_ne _ _ (by omega), zup_ne _ _ (by omega), u1.2 _ (by omega)]⟩
  · rw [zup_same, zrR_3, zrR_0 _ _ _ (j := 22) (by decide) (by decide) (by decide)]
    rfl
  · rw [e3 x hx]
    rfl
def mkS (s : AS) (k sd : Int32) : AS := (sM s + 1, sT s, sL s, fun j => if j = sM s then zrR k sd 0 else sR s j, fun j => if j = sM s then (fun _ => 0) else sG s j, sK s)
theorem mkS_R (s : AS) (k sd : Int32) : sR (mkS s k sd) (sM s) = zrR k sd 0 ∧ sG (mkS s k sd) (sM s) = (fun _ => 0) := ⟨if_pos rfl, if_pos rfl⟩
theorem mkS_R' (s : AS) (k sd : Int32) {j : Nat} (h : j ≠ sM s) : sR (mkS s k sd) j = sR s j ∧ sG (mkS s k sd) j = sG s j := ⟨if_neg h, if_neg h⟩
theorem WS_mk {s : AS} {k sd : Nat} (h : WS s) (hm : sM s < 6) (hk : k ≤ 2) (hs : sd ≤ 9) : WS (mkS s (nI k) (nI sd)) := ⟨hm, h.2.1, h.2.2.1, fun i hi => by
  have hi' : i < sM s + 1 := hi
  by_cases c : i = sM s
  · rw [c, (mkS_R s _ _).1, (mkS_R s _ _).2]
    exact WT_zr 0 hk hs
  · rw [(mkS_R' s _ _ c).1, (mkS_R' s _ _ c).2]
    exact h.2.2.2 i (by omega)⟩
-- ranges of zeros
theorem X9_zeroL {N M o : Nat} {u w : Int32} (m : Nat) (hm : o + 23 ≤ 6165) : ∀ d j n (σ : zS) (F : Nat → Int32), MB σ M → σ (M + 1) = some (.inl (1, 6165, .inl F)) → j + d = 23 → d < n → ∃ F' : Nat → Int32, m_X9_makeTable_L52 N n σ M u w (nI o) (nI j) = some (zup σ (M + 1) (.inl (1, 6165, .inl F'))) ∧ (∀ k, j ≤ k → k < 23 → F' (o + k) = 0) ∧ ∀ y, (y < o + j ∨ o + 23 ≤ y) → F' y = F y := by
  intro d
  induction d with
  | zero =>
    intro j n σ F h hF hj hn
    obtain ⟨n, rfl⟩ : ∃ m, n = m + 1 := ⟨n - 1, by omega⟩
    rw [m_X9_makeTable_L52, if_pos (by rw [show j = 23 by omega]; decide)]
    exact ⟨F, by rw [zup_id hF], fun k h1 h2 => by omega, fun _ _ => rfl⟩
  | succ d ih =>
    intro j n σ F h hF hj hn
    obtain ⟨n, rfl⟩ : ∃ m, n = m + 1 := ⟨n - 1, by omega⟩
    obtain ⟨F', e1, e2, e3⟩ := ih (j + 1) n (zup σ (M + 1) (.inl (1, 6165, .inl (upd F (o + j) 0)))) _ (h.keep (zup_ne _ _ (by omega))) (zup_same _ _ _) (by omega) (by omega)
    rw [zup_zup] at e1
    rw [m_X9_makeTable_L52, if_neg (litge 23 (by omega) (by decide)), h.o.2.1, Option.bind_some, uI_at hF (k := o + j) (by rw [nI_add]) (by omega) (by decide), Option.bind_some, Option.bind_some, nI_1, e1]
    refine ⟨F', rfl, fun k h1 h2 => ?_, fun y hy => ?_⟩
    · by_cases ck : k = j
      · rw [ck, e3 _ (by omega), upd_same]
      · exact e2 k (by omega) h2
    · rw [e3 y (by omega), upd_ne _ _ (by omega)]
theorem X9_forgetL {N M i : Nat} (hi : i < 6) : ∀ d j n (σ : zS) (F : Nat → Int32), MB σ M → σ (M + 1) = some (.inl (1, 6165, .inl F)) → j + d = 1000 → d < n → ∃ F' : Nat → Int32, m_X9_forgets_L2 N n σ M (nI i) (nI j) = some (zup σ (M + 1) (.inl (1, 6165, .inl F'))) ∧ (∀ k, j ≤ k → k < 1000 → F' (165 + 1000 * i + k) = 0) ∧ ∀ y, (y < 165 + 1000 * i + j ∨ 165 + 1000 * i + 1000 ≤ y) → F' y = F y := by
  intro d
  induction d with
  | zero =>
    intro j n σ F h hF hj hn
    obtain ⟨n, rfl⟩ : ∃ m, n = m + 1 := ⟨n - 1, by omega⟩
    rw [m_X9_forgets_L2, if_pos (by rw [show j = 1000 by omega]; decide)]
    exact ⟨F, by rw [zup_id hF], fun k h1 h2 => by omega, fun _ _ => rfl⟩
  | succ d ih =>
    intro j n σ F h hF hj hn
    obtain ⟨n, rfl⟩ : ∃ m, n = m + 1 := ⟨n - 1, by omega⟩
    obtain ⟨F', e1, e2, e3⟩ := ih (j + 1) n (zup σ (M + 1) (.inl (1, 6165, .inl (upd F (165 + 1000 * i + j) 0)))) _ (h.keep (zup_ne _ _ (by omega))) (zup_same _ _ _) (by omega) (by omega)
    rw [zup_zup] at e1
    rw [m_X9_forgets_L2, if_neg (litge 1000 (by omega) (by decide)), h.o.2.1, Option.bind_some, uI_at hF (k := 165 + 1000 * i + j) (by simp only [nlit, pk_mul, nI_add]) (by omega) (by decide), Option.bind_some, Option.bind_some, nI_1, e1]
    refine ⟨F', rfl, fun k h1 h2 => ?_, fun y hy => ?_⟩
    · by_cases ck : k = j
      · rw [ck, e3 _ (by omega), upd_same]
      · exact e2 k (by omega) h2
    · rw [e3 y (by omega), upd_ne _ _ (by omega)]
theorem X9_forgets {N M i : Nat} {σ : zS} {F : Nat → Int32} (hN : 1050 < N) (hi : i < 6) (h : MB σ M) (hF : σ (M + 1) = some (.inl (1, 6165, .inl F))) : ∃ F' : Nat → Int32, m_X9_forgets N σ M (nI i) = some (zup σ (M + 1) (.inl (1, 6165, .inl F'))) ∧ (∀ k, k < 1000 → F' (165 + 1000 * i + k) = 0) ∧ ∀ y, (y < 165 + 1000 * i ∨ 165 + 1000 * i + 1000 ≤ y) → F' y = F y := by
  obtain ⟨F', e1, e2, e3⟩ := X9_forgetL (N := N) hi 1000 0 N σ F h hF rfl (by omega)
  unfold m_X9_forgets
  rw [show (0 : Int32) = nI 0 from rfl, e1, Option.bind_some]
  exact ⟨F', rfl, fun k hk => e2 k (Nat.zero_le _) hk, e3⟩
theorem act_make {N : Nat} {σ : zS} {a k sd : Nat} {s : AS} (hN : 7000 < N) (h : St σ a s) (hm : sM s < 6) : ∃ σ', m_X4_makeTable N σ a (nI k) (nI sd) = some (nI (sM s), σ') ∧ St σ' a (mkS s (nI k) (nI sd)) ∧ ∀ x, (x < a ∨ a + 36 ≤ x) → σ' x = σ x := by
  have o := h.o
  obtain ⟨h1, ⟨f, h2, h3⟩, h4, h5, h6⟩ := h
  obtain ⟨r0, g0, tb0⟩ := h5 (sM s) hm
  have e1 : imin (nI (sM s) + 1) 6 = nI (sM s + 1) := by
    rw [nI_1, show (6 : Int32) = nI 6 from rfl, imin_nI (by omega) (by decide), Nat.min_eq_left (by omega)]
  generalize hσ : zup σ a (.inr (4, [.ref (a + 1), .ref (a + 2), .int (nI (sM s + 1)), .int (nI (sT s))])) = σ3
  have q3 : σ3 a = some (.inr (4, [.ref (a + 1), .ref (a + 2), .int (nI (sM s + 1)), .int (nI (sT s))])) := by rw [← hσ, zup_same]
  have o3 : ∀ x, x ≠ a → σ3 x = σ x := fun x hx => by rw [← hσ, zup_ne _ _ hx]
  have tb3 : Tb σ3 (a + 6 + 5 * sM s) r0 g0 := tb0.keep (fun x _ _ => o3 x (by omega))
  obtain ⟨σ4, b1, b2, b3⟩ := X5_begin (N := N) (k := nI k) (sd := nI sd) (by omega) tb3
  have fnd : m_X4_find N σ3 a (nI (sM s)) = some (some (a + 6 + 5 * sM s)) := by
    unfold m_X4_find
    rw [if_neg (nI_pos (by omega)), gI_at q3 rfl, Option.bind_some, if_neg (nI_ge (by omega) (by omega)), if_neg (litge 6 hm (by decide)), gA_at q3 rfl, Option.bind_some, aA_at (show σ3 (a + 1) = _ from (o3 _ (by omega)).trans h2) rfl hm (by decide) (h3 _ hm), Option.bind_some]
  have q4 : σ4 a = some (.inr (4, [.ref (a + 1), .ref (a + 2), .int (nI (sM s + 1)), .int (nI (sT s))])) := by rw [b3 _ (by omega), q3]
  refine ⟨σ4, ?_, ⟨q4, ⟨f, by rw [b3 _ (by omega), o3 _ (by omega)]; exact h2, h3⟩, h4.keep (fun x _ _ => by rw [b3 _ (by omega), o3 _ (by omega)]), fun i hi => ?_, fun i hi => ?_⟩, fun x hx => by rw [b3 _ (by omega), o3 _ (by omega)]⟩
  · unfold m_X4_makeTable
    have e2 : sI σ 4 2 a (nI (sM s + 1)) = some σ3 := by
      rw [sI_at h1 (Nat.le_of_ble_eq_true rfl), ← hσ]
      rfl
    rw [o.2.2.2.1, Option.bind_some, e1, e2, Option.bind_some, gI_at q3 rfl, Option.bind_some, isO_at q3, Option.bind_some, nI_pred, fnd, Option.bind_some, Option.elim_some, tb3.o.1, Option.bind_some, b1, Option.bind_some, gI_at q4 rfl, Option.bind_some, nI_pred]
  · by_cases c : i = sM s
    · rw [c]
      exact ⟨_, _, b2⟩
    · obtain ⟨r, g, ht⟩ := h5 i hi
      exact ⟨r, g, ht.keep (fun x _ _ => by rw [b3 _ (by omega), o3 _ (by omega)])⟩
  · have hi' : i < sM s + 1 := hi
    by_cases c : i = sM s
    · rw [c, (mkS_R s _ _).1, (mkS_R s _ _).2]
      exact b2
    · rw [(mkS_R' s _ _ c).1, (mkS_R' s _ _ c).2]
      exact (h6 i (by omega)).keep (fun x _ _ => by rw [b3 _ (by omega), o3 _ (by omega)])
theorem md_make {N : Nat} {σ : zS} {M k sd : Nat} {s : AS} (hN : 7000 < N) (h : Nw σ M s) (hW : WS s) (hm : sM s < 6) (hk : k ≤ 2) (hsd : sd ≤ 9) : ∃ F' : Nat → Int32, m_X9_makeTable N σ M (nI k) (nI sd) = some (nI (sM s), zup σ (M + 1) (.inl (1, 6165, .inl F'))) ∧ FR F' (mkS s (nI k) (nI sd)) := by
  obtain ⟨nb, F, nF, fr⟩ := h
  have hL := hW.2.2.1
  have nz : ∀ F2 : Nat → Int32, MB (zup σ (M + 1) (.inl (1, 6165, .inl F2))) M := fun F2 => nb.keep (zup_ne _ _ (by omega))
  obtain ⟨F1, a1, a2, a3⟩ := X9_zeroL (N := N) (u := nI k) (w := nI sd) (sM s) (show 23 * sM s + 23 ≤ 6165 by omega) 23 0 N σ F nb nF rfl (by omega)
  have z1 := zup_same σ (M + 1) (.inl (1, 6165, .inl F1))
  have b1 := uI_at z1 (x := nI (23 * sM s) + 0) (k := 23 * sM s) (y := nI k) (by simp only [nlit, nI_add]; rfl) (by omega) (by decide)
  rw [zup_zup] at b1
  have z2 := zup_same σ (M + 1) (.inl (1, 6165, .inl (upd F1 (23 * sM s) (nI k))))
  have b2 := uI_at z2 (x := nI (23 * sM s) + 1) (k := 23 * sM s + 1) (y := nI sd) (by simp only [nlit, nI_add]) (by omega) (by decide)
  rw [zup_zup] at b2
  have z3 := zup_same σ (M + 1) (.inl (1, 6165, .inl (upd (upd F1 (23 * sM s) (nI k)) (23 * sM s + 1) (nI sd))))
  have f138 : (upd (upd F1 (23 * sM s) (nI k)) (23 * sM s + 1) (nI sd)) 138 = nI (sM s) := by rw [upd_ne _ _ (by omega), upd_ne _ _ (by omega), a3 _ (by omega), fr.1]
  obtain ⟨F4, c1, c2, c3⟩ := X9_forgets (N := N) (by omega) hm (nz _) z3
  rw [zup_zup] at c1
  have z4 := zup_same σ (M + 1) (.inl (1, 6165, .inl F4))
  have g138 : F4 138 = nI (sM s) := by rw [c3 _ (by omega), f138]
  have b5 := uI_at z4 (x := 138) (k := 138) (y := nI (sM s) + 1) rfl (by omega) (by decide)
  rw [zup_zup] at b5
  have z5 := zup_same σ (M + 1) (.inl (1, 6165, .inl (upd F4 138 (nI (sM s) + 1))))
  have r0 := aI_at nF (x := 138) (k := 138) rfl (by omega) (by decide)
  have r3 := aI_at z3 (x := 138) (k := 138) rfl (by omega) (by decide)
  have r4 := aI_at z4 (x := 138) (k := 138) rfl (by omega) (by decide)
  have r5 := aI_at z5 (x := 138) (k := 138) rfl (by omega) (by decide)
  rw [fr.1] at r0
  rw [f138] at r3
  rw [g138] at r4
  rw [upd_same] at r5
  refine ⟨upd F4 138 (nI (sM s) + 1), ?_, ?_, ?_, ?_, fun i hi => ?_, fun j hj w hw => ?_⟩
  · unfold m_X9_makeTable
    rw [show (2 : Int32) = nI 2 from rfl, show (9 : Int32) = nI 9 from rfl, X9_in_in (by decide) hk, Option.bind_some, if_neg ne10, X9_in_in (by decide) hsd, Option.bind_some, if_neg ne10, nb.o.2.1, Option.bind_some, r0, Option.bind_some, if_neg (show ¬ nI (sM s) = 6 by rw [show (6 : Int32) = nI 6 from rfl, nI_eq (by omega) (by decide)]; omega), Option.bind_some, r0, Option.bind_some, show (23 : Int32) = nI 23 from rfl, pk_mul, Option.bind_some]
    rw [show m_X9_makeTable_L52 N N σ M (nI k) (nI sd) (nI (23 * sM s)) 0 = m_X9_makeTable_L52 N N σ M (nI k) (nI sd) (nI (23 * sM s)) (nI 0) from rfl, a1, Option.bind_some, (nz _).o.2.1, Option.bind_some, b1, Option.bind_some, (nz _).o.2.1, Option.bind_some, b2, Option.bind_some, (nz _).o.2.1, Option.bind_some, r3, Option.bind_some, (nz _).o.1, Option.bind_some, c1, Option.bind_some, (nz _).o.2.1, Option.bind_some, r4, Option.bind_some, b5, Option.bind_some, (nz _).o.2.1, Option.bind_some, r5, Option.bind_some, nI_1, nI_pred]
  · rw [upd_same, nI_1]
    rfl
  · rw [upd_ne _ _ (by omega), c3 _ (by omega), upd_ne _ _ (by omega), upd_ne _ _ (by omega), a3 _ (by omega)]
    exact fr.2.1
  · rw [upd_ne _ _ (by omega), c3 _ (by omega), upd_ne _ _ (by omega), upd_ne _ _ (by omega), a3 _ (by omega)]
    exact fr.2.2.1
  · have hi' : i < sM s + 1 := hi
    by_cases c : i = sM s
    · rw [c, (mkS_R s _ _).1, (mkS_R s _ _).2]
      refine ⟨fun j hj => ?_, fun x hx => ?_⟩
      · rw [upd_ne _ _ (by omega), c3 _ (by omega)]
        unfold zrR
        by_cases c0 : j = 0
        · rw [if_pos c0, c0, upd_ne _ _ (by omega)]
          exact upd_same _ _ _
        · rw [if_neg c0]
          by_cases c1' : j = 1
          · rw [if_pos c1', c1', upd_same]
          · rw [if_neg c1', upd_ne _ _ (by omega), upd_ne _ _ (by omega), a2 j (Nat.zero_le _) hj]
            split <;> rfl
      · rw [upd_ne _ _ (by omega), c2 x hx]
    · rw [(mkS_R' s _ _ c).1, (mkS_R' s _ _ c).2]
      have := fr.2.2.2.1 i (by omega)
      exact ⟨fun j hj => by rw [upd_ne _ _ (by omega), c3 _ (by omega), upd_ne _ _ (by omega), upd_ne _ _ (by omega), a3 _ (by omega)]; exact this.1 j hj, fun x hx => by rw [upd_ne _ _ (by omega), c3 _ (by omega), upd_ne _ _ (by omega), upd_ne _ _ (by omega), a3 _ (by omega)]; exact this.2 x hx⟩
  · have hj' : j < sL s := hj
    show upd F4 138 (nI (sM s) + 1) (141 + 3 * (sL s - 1 - j) + w) = sK s j w
    rw [upd_ne _ _ (by omega), c3 _ (by omega), upd_ne _ _ (by omega), upd_ne _ _ (by omega), a3 _ (by omega)]
    exact fr.2.2.2.2 j hj' w hw
theorem cmd_make {N : Nat} {s : AS} (hN : 7000 < N) (hW : WS s) (v u : Int32) : Cmd (fun σ a => m_X4_refusalOfTable N σ a v u) (fun σ a => m_X4_makeTable N σ a v u) (fun σ M => m_X9_makeTable N σ M v u) s := by
  have hM := hW.1
  have h138 : ∀ σ M, Nw σ M s → aI 1 σ (M + 1) 138 = some (nI (sM s)) := fun σ M h => by
    obtain ⟨nb, F, nF, fr⟩ := h
    rw [aI_at nF (show (138 : Int32) = nI 138 from rfl) (by decide) (by decide), fr.1]
  rcases wi_cases v 2 (by decide) with ⟨k, hk, rfl⟩ | hv
  · rcases wi_cases u 9 (by decide) with ⟨sd, hsd, rfl⟩ | hu
    · by_cases hm : sM s < 6
      · refine Or.inr ⟨nI (sM s), mkS s (nI k) (nI sd), nI_pos' (by omega), WS_mk hW hm hk hsd, fun σ a h => ?_, fun σ a h => act_make hN h hm, fun σ M h => md_make hN h hW hm hk hsd⟩
        dsimp only
        unfold m_X4_refusalOfTable
        rw [show (2 : Int32) = nI 2 from rfl, show (9 : Int32) = nI 9 from rfl, X8_within_in (by decide) hk, Option.bind_some, if_neg ne10, X8_within_in (by decide) hsd, Option.bind_some, if_neg ne10, h.o.2.2.2.1, Option.bind_some, if_pos (ltlit 6 hm (by decide))]
      · refine Or.inl ⟨-3, by decide, fun σ a h => ?_, fun σ M h => ?_⟩
        · dsimp only
          unfold m_X4_refusalOfTable
          rw [show (2 : Int32) = nI 2 from rfl, show (9 : Int32) = nI 9 from rfl, X8_within_in (by decide) hk, Option.bind_some, if_neg ne10, X8_within_in (by decide) hsd, Option.bind_some, if_neg ne10, h.o.2.2.2.1, Option.bind_some, if_neg (nltlit 6 (by omega) (by omega))]
        · dsimp only
          unfold m_X9_makeTable
          rw [show (2 : Int32) = nI 2 from rfl, show (9 : Int32) = nI 9 from rfl, X9_in_in (by decide) hk, Option.bind_some, if_neg ne10, X9_in_in (by decide) hsd, Option.bind_some, if_neg ne10, h.1.o.2.1, Option.bind_some, h138 σ M h, Option.bind_some, if_pos (show nI (sM s) = 6 by rw [show sM s = 6 by omega]; rfl)]
    · refine Or.inl ⟨-1, by decide, fun σ a h => ?_, fun σ M h => ?_⟩
      · dsimp only
        unfold m_X4_refusalOfTable
        rw [show (2 : Int32) = nI 2 from rfl, show (9 : Int32) = nI 9 from rfl, X8_within_in (by decide) hk, Option.bind_some, if_neg ne10, X8_within_out hu, Option.bind_some, if_pos rfl]
      · dsimp only
        unfold m_X9_makeTable
        rw [show (2 : Int32) = nI 2 from rfl, show (9 : Int32) = nI 9 from rfl, X9_in_in (by decide) hk, Option.bind_some, if_neg ne10, X9_in_out hu, Option.bind_some, if_pos rfl]
  · refine Or.inl ⟨-1, by decide, fun σ a h => ?_, fun σ M h => ?_⟩
    · dsimp only
      unfold m_X4_refusalOfTable
      rw [show (2 : Int32) = nI 2 from rfl, X8_within_out hv, Option.bind_some, if_pos rfl]
    · dsimp only
      unfold m_X9_makeTable
      rw [show (2 : Int32) = nI 2 from rfl, X9_in_out hv, Option.bind_some, if_pos rfl]
