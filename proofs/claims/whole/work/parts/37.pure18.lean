/-! Pure, 18: the reference's copies, its history, its changes -/
theorem zup_comm {σ : zS} {a b : Nat} {x y : zE} (h : a ≠ b) : zup (zup σ a x) b y = zup (zup σ b y) a x := by
  funext j
  unfold zup
  by_cases c : j = a
  · by_cases c' : j = b
    · omega
    · rw [if_neg c', if_pos c, if_pos c]
  · rw [if_neg c, if_neg c]
theorem FR.cong {F F' : Nat → Int32} {s : AS} (hM : sM s ≤ 6) (hL : sL s ≤ 8) (h : FR F s) (e : ∀ j, j < 6165 → F' j = F j) : FR F' s := by
  obtain ⟨h1, h2, h3, h4, h5⟩ := h
  exact ⟨by rw [e _ (by omega)]; exact h1, by rw [e _ (by omega)]; exact h2, by rw [e _ (by omega)]; exact h3, fun i hi => ⟨fun j hj => by rw [e _ (by omega)]; exact (h4 i hi).1 j hj, fun x hx => by rw [e _ (by omega)]; exact (h4 i hi).2 x hx⟩, fun k hk w hw => by rw [e _ (by omega)]; exact h5 k hk w hw⟩
theorem X9_copyL {N A B : Nat} (hAB : A ≠ B) : ∀ d j n (σ : zS) (F G : Nat → Int32), σ A = some (.inl (1, 6165, .inl F)) → σ B = some (.inl (1, 6165, .inl G)) → j + d = 6165 → d < n → ∃ G' : Nat → Int32, m_X9_copy_L2 N n σ A B (nI j) = some (zup σ B (.inl (1, 6165, .inl G'))) ∧ (∀ k, j ≤ k → k < 6165 → G' k = F k) ∧ ∀ k, k < j → G' k = G k := by
  intro d
  induction d with
  | zero =>
    intro j n σ F G hF hG hj hn
    obtain ⟨n, rfl⟩ : ∃ m, n = m + 1 := ⟨n - 1, by omega⟩
    rw [m_X9_copy_L2, if_pos (by rw [show j = 6165 by omega]; decide)]
    exact ⟨G, by rw [zup_id hG], fun k h1 h2 => by omega, fun _ _ => rfl⟩
  | succ d ih =>
    intro j n σ F G hF hG hj hn
    obtain ⟨n, rfl⟩ : ∃ m, n = m + 1 := ⟨n - 1, by omega⟩
    obtain ⟨G', e1, e2, e3⟩ := ih (j + 1) n (zup σ B (.inl (1, 6165, .inl (upd G j (F j))))) F _ (by rw [zup_ne _ _ hAB]; exact hF) (zup_same _ _ _) (by omega) (by omega)
    rw [zup_zup] at e1
    rw [m_X9_copy_L2, if_neg (litge 6165 (by omega) (by decide)), aI_at hF rfl (by omega) (by decide), Option.bind_some, uI_at hG rfl (by omega) (by decide), Option.bind_some, Option.bind_some, nI_1, e1]
    refine ⟨G', rfl, fun k h1 h2 => ?_, fun k hk => ?_⟩
    · by_cases c : k = j
      · rw [c, e3 _ (by omega), upd_same]
      · exact e2 k (by omega) h2
    · rw [e3 k (by omega), upd_ne _ _ (by omega)]
theorem X9_copy {N A B : Nat} {σ : zS} {F G : Nat → Int32} (hN : 7000 < N) (hAB : A ≠ B) (hF : σ A = some (.inl (1, 6165, .inl F))) (hG : σ B = some (.inl (1, 6165, .inl G))) : ∃ G' : Nat → Int32, m_X9_copy N σ A B = some (zup σ B (.inl (1, 6165, .inl G'))) ∧ ∀ k, k < 6165 → G' k = F k := by
  obtain ⟨G', e1, e2, -⟩ := X9_copyL (N := N) hAB 6165 0 N σ F G hF hG rfl (by omega)
  unfold m_X9_copy
  rw [show (0 : Int32) = nI 0 from rfl, e1, Option.bind_some]
  exact ⟨G', rfl, fun k hk => e2 k (Nat.zero_le _) hk⟩
theorem X9_swapL {N M : Nat} : ∀ d j n (σ : zS) (F G : Nat → Int32), MB σ M → σ (M + 1) = some (.inl (1, 6165, .inl F)) → σ (M + 2) = some (.inl (1, 6165, .inl G)) → j + d = 6165 → d < n → ∃ F' G' : Nat → Int32, m_X9_swap_L2 N n σ M (nI j) = some (zup (zup σ (M + 1) (.inl (1, 6165, .inl F'))) (M + 2) (.inl (1, 6165, .inl G'))) ∧ (∀ k, j ≤ k → k < 6165 → F' k = G k ∧ G' k = F k) ∧ ∀ k, k < j → F' k = F k ∧ G' k = G k := by
  intro d
  induction d with
  | zero =>
    intro j n σ F G h hF hG hj hn
    obtain ⟨n, rfl⟩ : ∃ m, n = m + 1 := ⟨n - 1, by omega⟩
    rw [m_X9_swap_L2, if_pos (by rw [show j = 6165 by omega]; decide)]
    exact ⟨F, G, by rw [zup_id hF, zup_id hG], fun k h1 h2 => by omega, fun _ _ => ⟨rfl, rfl⟩⟩
  | succ d ih =>
    intro j n σ F G h hF hG hj hn
    obtain ⟨n, rfl⟩ : ∃ m, n = m + 1 := ⟨n - 1, by omega⟩
    have h1 : MB (zup σ (M + 1) (.inl (1, 6165, .inl (upd F j (G j))))) M := h.keep (zup_ne _ _ (by omega))
    have hG1 : zup σ (M + 1) (.inl (1, 6165, .inl (upd F j (G j)))) (M + 2) = some (.inl (1, 6165, .inl G)) := by rw [zup_ne _ _ (by omega)]; exact hG
    obtain ⟨F', G', e1, e2, e3⟩ := ih (j + 1) n (zup (zup σ (M + 1) (.inl (1, 6165, .inl (upd F j (G j))))) (M + 2) (.inl (1, 6165, .inl (upd G j (F j))))) _ _ (h1.keep (zup_ne _ _ (by omega))) (by rw [zup_ne _ _ (by omega), zup_same]) (zup_same _ _ _) (by omega) (by omega)
    rw [zup_comm (σ := zup σ (M + 1) _) (a := M + 2) (b := M + 1) (by omega), zup_zup, zup_zup] at e1
    rw [m_X9_swap_L2, if_neg (litge 6165 (by omega) (by decide)), h.o.2.1, Option.bind_some, aI_at hF rfl (by omega) (by decide), Option.bind_some, Option.bind_some, h.o.2.2.1, Option.bind_some, aI_at hG rfl (by omega) (by decide), Option.bind_some, uI_at hF rfl (by omega) (by decide), Option.bind_some, h1.o.2.2.1, Option.bind_some, uI_at hG1 rfl (by omega) (by decide), Option.bind_some, Option.bind_some, nI_1, e1]
    refine ⟨F', G', rfl, fun k hk1 hk2 => ?_, fun k hk => ?_⟩
    · by_cases c : k = j
      · rw [c, (e3 j (by omega)).1, (e3 j (by omega)).2, upd_same, upd_same]
        exact ⟨rfl, rfl⟩
      · have := e2 k (by omega) hk2
        rw [upd_ne _ _ c, upd_ne _ _ c] at this
        exact this
    · have := e3 k (by omega)
      rw [upd_ne _ _ (by omega), upd_ne _ _ (by omega)] at this
      exact this
theorem X9_swap {N M : Nat} {σ : zS} {F G : Nat → Int32} (hN : 7000 < N) (h : MB σ M) (hF : σ (M + 1) = some (.inl (1, 6165, .inl F))) (hG : σ (M + 2) = some (.inl (1, 6165, .inl G))) : ∃ F' G' : Nat → Int32, m_X9_swap N σ M = some (zup (zup σ (M + 1) (.inl (1, 6165, .inl F'))) (M + 2) (.inl (1, 6165, .inl G'))) ∧ ∀ k, k < 6165 → F' k = G k ∧ G' k = F k := by
  obtain ⟨F', G', e1, e2, -⟩ := X9_swapL (N := N) 6165 0 N σ F G h hF hG rfl (by omega)
  unfold m_X9_swap
  rw [show (0 : Int32) = nI 0 from rfl, e1, Option.bind_some]
  exact ⟨F', G', rfl, fun k hk => e2 k (Nat.zero_le _) hk⟩
/-- as MR, with s in the aside -/
def MX (σ : zS) (M : Nat) (s' s : AS) (n : Nat) (H : Nat → AS) (T : Nat → Int32) (len : Nat) : Prop := ∃ (first : Nat) (at_ ok re ca : Int32), first < 4 ∧ σ M = some (.inr (9, mF M (nI first) (nI n) (nI len) at_ ok re ca)) ∧ (∃ F : Nat → Int32, σ (M + 1) = some (.inl (1, 6165, .inl F)) ∧ FR F s') ∧ (∃ F : Nat → Int32, σ (M + 2) = some (.inl (1, 6165, .inl F)) ∧ FR F s) ∧ (∀ k, k < 4 → ∃ F : Nat → Int32, σ (M + 3 + k) = some (.inl (1, 6165, .inl F))) ∧ (∀ k, k < n → ∃ F : Nat → Int32, σ (M + 3 + (first + k) % 4) = some (.inl (1, 6165, .inl F)) ∧ FR F (H k)) ∧ (∃ X : Nat → Int32, σ (M + 7) = some (.inl (1, 23, .inl X))) ∧ ∃ C : Nat → Int32, σ (M + 8) = some (.inl (1, 80, .inl C)) ∧ ∀ j, j < len → C j = T j
theorem X9_lays {N M k : Nat} {σ : zS} {F : Nat → Int32} (hN : 7000 < N) (hk : k < 4) (h : MB σ M) (hF : σ (M + 1) = some (.inl (1, 6165, .inl F))) (hG : ∃ G : Nat → Int32, σ (M + 3 + k) = some (.inl (1, 6165, .inl G))) : ∃ G' : Nat → Int32, m_X9_lays N σ M (nI k) = some (zup σ (M + 3 + k) (.inl (1, 6165, .inl G'))) ∧ ∀ j, j < 6165 → G' j = F j := by
  obtain ⟨G, hG⟩ := hG
  obtain ⟨G', e1, e2⟩ := X9_copy (N := N) hN (show M + 1 ≠ M + 3 + k by omega) hF hG
  have hp : gA σ 9 2 M = some (M + 3) ∧ gA σ 9 3 M = some (M + 4) ∧ gA σ 9 4 M = some (M + 5) ∧ gA σ 9 5 M = some (M + 6) := by
    obtain ⟨a, b, c, d, e, f, g, h⟩ := h
    exact ⟨gA_at h rfl, gA_at h rfl, gA_at h rfl, gA_at h rfl⟩
  refine ⟨G', ?_, e2⟩
  unfold m_X9_lays
  have : k = 0 ∨ k = 1 ∨ k = 2 ∨ k = 3 := by omega
  rcases this with rfl | rfl | rfl | rfl
  · rw [if_pos (by rfl), h.o.2.1, Option.bind_some, hp.1, Option.bind_some, show m_X9_copy N σ (M + 1) (M + 3) = _ from e1, Option.bind_some]
  · rw [if_neg (by decide), if_pos (by rfl), h.o.2.1, Option.bind_some, hp.2.1, Option.bind_some, show m_X9_copy N σ (M + 1) (M + 4) = _ from e1, Option.bind_some]
  · rw [if_neg (by decide), if_neg (by decide), if_pos (by rfl), h.o.2.1, Option.bind_some, hp.2.2.1, Option.bind_some, show m_X9_copy N σ (M + 1) (M + 5) = _ from e1, Option.bind_some]
  · rw [if_neg (by decide), if_neg (by decide), if_neg (by decide), h.o.2.1, Option.bind_some, hp.2.2.2, Option.bind_some, show m_X9_copy N σ (M + 1) (M + 6) = _ from e1, Option.bind_some]
theorem X9_brings {N M k : Nat} {σ : zS} {F : Nat → Int32} (hN : 7000 < N) (hk : k < 4) (h : MB σ M) (hF : ∃ F0 : Nat → Int32, σ (M + 1) = some (.inl (1, 6165, .inl F0))) (hG : σ (M + 3 + k) = some (.inl (1, 6165, .inl F))) : ∃ G' : Nat → Int32, m_X9_brings N σ M (nI k) = some (zup σ (M + 1) (.inl (1, 6165, .inl G'))) ∧ ∀ j, j < 6165 → G' j = F j := by
  obtain ⟨F0, hF⟩ := hF
  obtain ⟨G', e1, e2⟩ := X9_copy (N := N) hN (show M + 3 + k ≠ M + 1 by omega) hG hF
  have hp : gA σ 9 2 M = some (M + 3) ∧ gA σ 9 3 M = some (M + 4) ∧ gA σ 9 4 M = some (M + 5) ∧ gA σ 9 5 M = some (M + 6) := by
    obtain ⟨a, b, c, d, e, f, g, h⟩ := h
    exact ⟨gA_at h rfl, gA_at h rfl, gA_at h rfl, gA_at h rfl⟩
  refine ⟨G', ?_, e2⟩
  unfold m_X9_brings
  have : k = 0 ∨ k = 1 ∨ k = 2 ∨ k = 3 := by omega
  rcases this with rfl | rfl | rfl | rfl
  · rw [if_pos (by rfl), hp.1, Option.bind_some, h.o.2.1, Option.bind_some, show m_X9_copy N σ (M + 3) (M + 1) = _ from e1, Option.bind_some]
  · rw [if_neg (by decide), if_pos (by rfl), hp.2.1, Option.bind_some, h.o.2.1, Option.bind_some, show m_X9_copy N σ (M + 4) (M + 1) = _ from e1, Option.bind_some]
  · rw [if_neg (by decide), if_neg (by decide), if_pos (by rfl), hp.2.2.1, Option.bind_some, h.o.2.1, Option.bind_some, show m_X9_copy N σ (M + 5) (M + 1) = _ from e1, Option.bind_some]
  · rw [if_neg (by decide), if_neg (by decide), if_neg (by decide), hp.2.2.2, Option.bind_some, h.o.2.1, Option.bind_some, show m_X9_copy N σ (M + 6) (M + 1) = _ from e1, Option.bind_some]
theorem X9_records {N M n first : Nat} {σ : zS} {F : Nat → Int32} {len at_ ok re ca : Int32} (hN : 7000 < N) (hn : n ≤ 4) (hf : first < 4) (h : σ M = some (.inr (9, mF M (nI first) (nI n) len at_ ok re ca))) (hF : σ (M + 1) = some (.inl (1, 6165, .inl F))) (hG : ∀ k, k < 4 → ∃ G : Nat → Int32, σ (M + 3 + k) = some (.inl (1, 6165, .inl G))) : ∃ (σ' : zS) (G' : Nat → Int32), m_X9_records N σ M = some σ' ∧ σ' M = some (.inr (9, mF M (nI (if n = 4 then (first + 1) % 4 else first)) (nI (min (n + 1) 4)) len at_ ok re ca)) ∧ σ' (M + 3 + (first + n) % 4) = some (.inl (1, 6165, .inl G')) ∧ (∀ j, j < 6165 → G' j = F j) ∧ ∀ x, x ≠ M → x ≠ M + 3 + (first + n) % 4 → σ' x = σ x := by
  have key : ∀ (σ1 : zS) (f1 n1 : Nat), f1 < 4 → n1 ≤ 3 → σ1 M = some (.inr (9, mF M (nI f1) (nI n1) len at_ ok re ca)) → (∀ x, x ≠ M → σ1 x = σ x) → ∃ (σ' : zS) (G' : Nat → Int32), ((gI σ1 9 6 M).bind fun x14 => (gI σ1 9 7 M).bind fun x16 => (isO σ1 9 M).bind fun u18 => (m_X9_lays N σ1 M (irem (x14 + x16) 4)).bind fun σ21 => (gI σ21 9 7 M).bind fun x22 => (sI σ21 9 7 M (x22 + 1)).bind fun σ24 => some σ24) = some σ' ∧ σ' M = some (.inr (9, mF M (nI f1) (nI (n1 + 1)) len at_ ok re ca)) ∧ σ' (M + 3 + (f1 + n1) % 4) = some (.inl (1, 6165, .inl G')) ∧ (∀ j, j < 6165 → G' j = F j) ∧ ∀ x, x ≠ M → x ≠ M + 3 + (f1 + n1) % 4 → σ' x = σ x := by
    intro σ1 f1 n1 hf1 hn1 h1 o1
    have hm : (f1 + n1) % 4 < 4 := Nat.mod_lt _ (by decide)
    obtain ⟨G', e1, e2⟩ := X9_lays (N := N) (σ := σ1) hN hm ⟨_, _, _, _, _, _, _, h1⟩ ((o1 _ (by omega)).trans hF) (by
      obtain ⟨G, hG⟩ := hG _ hm
      exact ⟨G, (o1 _ (by omega)).trans hG⟩)
    have q1 : zup σ1 (M + 3 + (f1 + n1) % 4) (.inl (1, 6165, .inl G')) M = _ := (zup_ne _ _ (by omega)).trans h1
    rw [gI_at h1 rfl, Option.bind_some, gI_at h1 rfl, Option.bind_some, isO_at h1, Option.bind_some, nI_add, show (4 : Int32) = nI 4 from rfl, irem_nI (by omega) (by decide) (by decide), e1, Option.bind_some, gI_at q1 rfl, Option.bind_some, sI_at q1 (Nat.le_of_ble_eq_true rfl), Option.bind_some, nI_1]
    exact ⟨_, G', rfl, by rw [zup_same]; rfl, by rw [zup_ne _ _ (by omega), zup_same], e2, fun x hx hx2 => by rw [zup_ne _ _ hx, zup_ne _ _ hx2, o1 x hx]⟩
  unfold m_X9_records
  rw [gI_at h rfl, Option.bind_some]
  by_cases c : n = 4
  · subst c
    have e1 : irem (nI first + 1) 4 = nI ((first + 1) % 4) := by rw [nI_1, show (4 : Int32) = nI 4 from rfl, irem_nI (by omega) (by decide) (by decide)]
    rw [if_pos (by rfl), gI_at h rfl, Option.bind_some, e1, sI_at h (Nat.le_of_ble_eq_true rfl), Option.bind_some, gI_at (zup_same _ _ _) rfl, Option.bind_some, sI_at (zup_same _ _ _) (Nat.le_of_ble_eq_true rfl), Option.bind_some, zup_zup, Option.bind_some, if_pos rfl]
    have k1 := key (zup σ M (.inr (9, mF M (nI ((first + 1) % 4)) (nI 3) len at_ ok re ca))) ((first + 1) % 4) 3 (Nat.mod_lt _ (by decide)) (by omega) (zup_same _ _ _) (fun x hx => zup_ne _ _ hx)
    rw [show ((first + 1) % 4 + 3) % 4 = (first + 4) % 4 by omega] at k1
    exact k1
  · rw [if_neg (by rw [show (4 : Int32) = nI 4 from rfl, nI_eq (by omega) (by decide)]; exact c), Option.bind_some, if_neg c, Nat.min_eq_left (by omega)]
    exact key σ first n hf (by omega) h (fun _ _ => rfl)
theorem X9_ends_ok {N M n len : Nat} {σ : zS} {s' s : AS} {H : Nat → AS} {T : Nat → Int32} {y : Int32} (hN : 7000 < N) (hn : n ≤ 4) (hW : WS s) (hW' : WS s') (hy : 0 ≤ y) (h : MX σ M s' s n H T len) : ∃ σ', m_X9_ends N σ M y = some (y, σ') ∧ MR σ' M s' (min (n + 1) 4) (recH n H s) T len ∧ ∀ x, (x < M ∨ M + 9 ≤ x) → σ' x = σ x := by
  obtain ⟨first, at_, ok, re, ca, m0, m1, ⟨F, m2, m2'⟩, ⟨G, m3, m3'⟩, m4, m5, ⟨X, m6⟩, C, m7, m8⟩ := h
  have nb : MB σ M := ⟨_, _, _, _, _, _, _, m1⟩
  obtain ⟨F1, G1, a1, a2⟩ := X9_swap (N := N) hN nb m2 m3
  generalize hσ1 : zup (zup σ (M + 1) (.inl (1, 6165, .inl F1))) (M + 2) (.inl (1, 6165, .inl G1)) = σ1 at a1
  have o1 : ∀ x, x ≠ M + 1 → x ≠ M + 2 → σ1 x = σ x := fun x h1 h2 => by rw [← hσ1, zup_ne _ _ h2, zup_ne _ _ h1]
  have c1 : σ1 (M + 1) = some (.inl (1, 6165, .inl F1)) := by rw [← hσ1, zup_ne _ _ (by omega), zup_same]
  have c2 : σ1 (M + 2) = some (.inl (1, 6165, .inl G1)) := by rw [← hσ1, zup_same]
  have c0 := (o1 M (by omega) (by omega)).trans m1
  obtain ⟨σ2, G2, b1, b2, b3, b4, b5⟩ := X9_records (N := N) hN hn m0 c0 c1 (fun k hk => by
    obtain ⟨G0, e⟩ := m4 k hk
    exact ⟨G0, (o1 _ (by omega) (by omega)).trans e⟩)
  have hsl : (first + n) % 4 < 4 := Nat.mod_lt _ (by decide)
  obtain ⟨F3, G3, d1, d2⟩ := X9_swap (N := N) (σ := σ2) hN ⟨_, _, _, _, _, _, _, b2⟩ ((b5 _ (by omega) (by omega)).trans c1) ((b5 _ (by omega) (by omega)).trans c2)
  have o3 : ∀ x, x ≠ M + 1 → x ≠ M + 2 → zup (zup σ2 (M + 1) (.inl (1, 6165, .inl F3))) (M + 2) (.inl (1, 6165, .inl G3)) x = σ2 x := fun x h1 h2 => by rw [zup_ne _ _ h2, zup_ne _ _ h1]
  unfold m_X9_ends
  rw [if_pos hy, nb.o.1, Option.bind_some, a1, Option.bind_some, isO_at c0, Option.bind_some, b1, Option.bind_some, isO_at b2, Option.bind_some, d1, Option.bind_some]
  refine ⟨_, rfl, ⟨if n = 4 then (first + 1) % 4 else first, at_, ok, re, ca, ?_, ?_, ⟨F3, by rw [zup_ne _ _ (by omega), zup_same], ?_⟩, ⟨G3, zup_same _ _ _⟩, fun k hk => ?_, fun k hk => ?_, ⟨X, ?_⟩, C, ?_, m8⟩, fun x hx => ?_⟩
  · split <;> omega
  · rw [o3 _ (by omega) (by omega)]
    exact b2
  · exact m2'.cong hW'.1 hW'.2.2.1 (fun j hj => by rw [(d2 j hj).1, (a2 j hj).2])
  · rw [o3 _ (by omega) (by omega)]
    by_cases c : k = (first + n) % 4
    · rw [c]
      exact ⟨G2, b3⟩
    · obtain ⟨G0, e⟩ := m4 k hk
      exact ⟨G0, by rw [b5 _ (by omega) (by omega), o1 _ (by omega) (by omega)]; exact e⟩
  · rw [o3 _ (by omega) (by omega)]
    unfold recH
    by_cases c : n = 4
    · rw [if_pos c, if_pos c]
      by_cases c3 : k = 3
      · rw [if_pos c3, show ((first + 1) % 4 + k) % 4 = (first + n) % 4 by omega]
        exact ⟨G2, b3, m3'.cong hW.1 hW.2.2.1 (fun j hj => by rw [b4 j hj, (a2 j hj).1])⟩
      · rw [if_neg c3, show ((first + 1) % 4 + k) % 4 = (first + (k + 1)) % 4 by omega]
        obtain ⟨G0, e, e'⟩ := m5 (k + 1) (by omega)
        exact ⟨G0, by rw [b5 _ (by omega) (by omega), o1 _ (by omega) (by omega)]; exact e, e'⟩
    · rw [if_neg c, if_neg c]
      by_cases cn : k = n
      · rw [if_pos cn, cn]
        exact ⟨G2, b3, m3'.cong hW.1 hW.2.2.1 (fun j hj => by rw [b4 j hj, (a2 j hj).1])⟩
      · rw [if_neg cn]
        obtain ⟨G0, e, e'⟩ := m5 k (by omega)
        exact ⟨G0, by rw [b5 _ (by omega) (by omega), o1 _ (by omega) (by omega)]; exact e, e'⟩
  · rw [o3 _ (by omega) (by omega), b5 _ (by omega) (by omega), o1 _ (by omega) (by omega)]
    exact m6
  · rw [o3 _ (by omega) (by omega), b5 _ (by omega) (by omega), o1 _ (by omega) (by omega)]
    exact m7
  · rw [o3 _ (by omega) (by omega), b5 _ (by omega) (by omega), o1 _ (by omega) (by omega)]
theorem X9_ends_no {N M n len : Nat} {σ : zS} {s' s : AS} {H : Nat → AS} {T : Nat → Int32} {y : Int32} (hN : 7000 < N) (hW : WS s) (hy : y < 0) (h : MX σ M s' s n H T len) : ∃ σ', m_X9_ends N σ M y = some (y, σ') ∧ MR σ' M s n H T len ∧ ∀ x, (x < M ∨ M + 9 ≤ x) → σ' x = σ x := by
  obtain ⟨first, at_, ok, re, ca, m0, m1, ⟨F, m2, m2'⟩, ⟨G, m3, m3'⟩, m4, m5, ⟨X, m6⟩, C, m7, m8⟩ := h
  have nb : MB σ M := ⟨_, _, _, _, _, _, _, m1⟩
  obtain ⟨F1, a1, a2⟩ := X9_copy (N := N) hN (show M + 2 ≠ M + 1 by omega) m3 m2
  unfold m_X9_ends
  rw [if_neg (Int32.not_le.mpr hy), nb.o.2.2.1, Option.bind_some, nb.o.2.1, Option.bind_some, a1, Option.bind_some]
  refine ⟨_, rfl, ⟨first, at_, ok, re, ca, m0, by rw [zup_ne _ _ (by omega)]; exact m1, ⟨F1, zup_same _ _ _, m3'.cong hW.1 hW.2.2.1 a2⟩, ⟨G, by rw [zup_ne _ _ (by omega)]; exact m3⟩, fun k hk => ?_, fun k hk => ?_, ⟨X, by rw [zup_ne _ _ (by omega)]; exact m6⟩, C, by rw [zup_ne _ _ (by omega)]; exact m7, m8⟩, fun x hx => zup_ne _ _ (by omega)⟩
  · obtain ⟨G0, e⟩ := m4 k hk
    exact ⟨G0, by rw [zup_ne _ _ (by omega)]; exact e⟩
  · obtain ⟨G0, e, e'⟩ := m5 k hk
    exact ⟨G0, by rw [zup_ne _ _ (by omega)]; exact e, e'⟩
theorem X9_aside {N M n len : Nat} {σ : zS} {s : AS} {H : Nat → AS} {T : Nat → Int32} (hN : 7000 < N) (hW : WS s) (h : MR σ M s n H T len) : ∃ σ', m_X9_copy N σ (M + 1) (M + 2) = some σ' ∧ MX σ' M s s n H T len ∧ ∀ x, (x < M ∨ M + 9 ≤ x) → σ' x = σ x := by
  obtain ⟨first, at_, ok, re, ca, m0, m1, ⟨F, m2, m2'⟩, ⟨G, m3⟩, m4, m5, ⟨X, m6⟩, C, m7, m8⟩ := h
  obtain ⟨G1, a1, a2⟩ := X9_copy (N := N) hN (show M + 1 ≠ M + 2 by omega) m2 m3
  refine ⟨_, a1, ⟨first, at_, ok, re, ca, m0, by rw [zup_ne _ _ (by omega)]; exact m1, ⟨F, by rw [zup_ne _ _ (by omega)]; exact m2, m2'⟩, ⟨G1, zup_same _ _ _, m2'.cong hW.1 hW.2.2.1 a2⟩, fun k hk => ?_, fun k hk => ?_, ⟨X, by rw [zup_ne _ _ (by omega)]; exact m6⟩, C, by rw [zup_ne _ _ (by omega)]; exact m7, m8⟩, fun x hx => zup_ne _ _ (by omega)⟩
  · obtain ⟨G0, e⟩ := m4 k hk
    exact ⟨G0, by rw [zup_ne _ _ (by omega)]; exact e⟩
  · obtain ⟨G0, e, e'⟩ := m5 k hk
    exact ⟨G0, by rw [zup_ne _ _ (by omega)]; exact e, e'⟩
theorem MX.nw {σ : zS} {M n len : Nat} {s' s : AS} {H : Nat → AS} {T : Nat → Int32} (h : MX σ M s' s n H T len) : Nw σ M s' := by
  obtain ⟨first, at_, ok, re, ca, m0, m1, m2, m3, m4, m5, m6, m7⟩ := h
  exact ⟨⟨_, _, _, _, _, _, _, m1⟩, m2⟩
theorem MX.set {σ : zS} {M n len : Nat} {s' s s2 : AS} {H : Nat → AS} {T F' : Nat → Int32} (h : MX σ M s' s n H T len) (hF : FR F' s2) : MX (zup σ (M + 1) (.inl (1, 6165, .inl F'))) M s2 s n H T len := by
  obtain ⟨first, at_, ok, re, ca, m0, m1, m2, ⟨G, m3, m3'⟩, m4, m5, ⟨X, m6⟩, C, m7, m8⟩ := h
  refine ⟨first, at_, ok, re, ca, m0, by rw [zup_ne _ _ (by omega)]; exact m1, ⟨F', zup_same _ _ _, hF⟩, ⟨G, by rw [zup_ne _ _ (by omega)]; exact m3, m3'⟩, fun k hk => ?_, fun k hk => ?_, ⟨X, by rw [zup_ne _ _ (by omega)]; exact m6⟩, C, by rw [zup_ne _ _ (by omega)]; exact m7, m8⟩
  · obtain ⟨G0, e⟩ := m4 k hk
    exact ⟨G0, by rw [zup_ne _ _ (by omega)]; exact e⟩
  · obtain ⟨G0, e, e'⟩ := m5 k hk
    exact ⟨G0, by rw [zup_ne _ _ (by omega)]; exact e, e'⟩
/-- the reference's change, whatever it does -/
def mdC (N : Nat) (md : zS → Option (Int32 × zS)) (σ : zS) (M : Nat) : Option (Int32 × zS) := (gA σ 9 0 M).bind fun a1 => (gA σ 9 1 M).bind fun a3 => (m_X9_copy N σ a1 a3).bind fun σ6 => (isO σ6 9 M).bind fun u7 => b2 (md σ6) fun x11 σ10 => (isO σ10 9 M).bind fun u12 => b2 (m_X9_ends N σ10 M x11) fun x16 σ15 => some (x16, σ15)
theorem mdC_no {N M n len : Nat} {σ : zS} {s : AS} {H : Nat → AS} {T : Nat → Int32} {y : Int32} {md : zS → Option (Int32 × zS)} (hN : 7000 < N) (hW : WS s) (hy : y < 0) (h : MR σ M s n H T len) (hm : ∀ σ, Nw σ M s → md σ = some (y, σ)) : ∃ σ', mdC N md σ M = some (y, σ') ∧ MR σ' M s n H T len ∧ ∀ x, (x < M ∨ M + 9 ≤ x) → σ' x = σ x := by
  obtain ⟨σ1, a1, a2, a3⟩ := X9_aside (N := N) hN hW h
  obtain ⟨σ2, b1, b2, b3⟩ := X9_ends_no (N := N) hN hW hy a2
  unfold mdC
  rw [h.mb.o.2.1, Option.bind_some, h.mb.o.2.2.1, Option.bind_some, a1, Option.bind_some, a2.nw.1.o.1, Option.bind_some, hm σ1 a2.nw, b2_some, a2.nw.1.o.1, Option.bind_some, b1, b2_some]
  exact ⟨σ2, rfl, b2, fun x hx => by rw [b3 x hx, a3 x hx]⟩
theorem mdC_ok {N M n len : Nat} {σ : zS} {s s' : AS} {H : Nat → AS} {T : Nat → Int32} {y : Int32} {md : zS → Option (Int32 × zS)} (hN : 7000 < N) (hn : n ≤ 4) (hW : WS s) (hW' : WS s') (hy : 0 ≤ y) (h : MR σ M s n H T len) (hm : ∀ σ, Nw σ M s → ∃ F' : Nat → Int32, md σ = some (y, zup σ (M + 1) (.inl (1, 6165, .inl F'))) ∧ FR F' s') : ∃ σ', mdC N md σ M = some (y, σ') ∧ MR σ' M s' (min (n + 1) 4) (recH n H s) T len ∧ ∀ x, (x < M ∨ M + 9 ≤ x) → σ' x = σ x := by
  obtain ⟨σ1, a1, a2, a3⟩ := X9_aside (N := N) hN hW h
  obtain ⟨F', c1, c2⟩ := hm σ1 a2.nw
  have a4 := a2.set c2
  obtain ⟨σ2, b1, b2, b3⟩ := X9_ends_ok (N := N) hN hn hW hW' hy a4
  unfold mdC
  rw [h.mb.o.2.1, Option.bind_some, h.mb.o.2.2.1, Option.bind_some, a1, Option.bind_some, a2.nw.1.o.1, Option.bind_some, c1, b2_some, a4.nw.1.o.1, Option.bind_some, b1, b2_some]
  exact ⟨σ2, rfl, b2, fun x hx => by rw [b3 x hx, zup_ne _ _ (by omega), a3 x hx]⟩
