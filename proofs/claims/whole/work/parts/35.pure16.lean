/-! Pure, 16: a reset, both sides -/
theorem X2_writeL {N q : Nat} {fs : List Value} {u v w : Int32} (g1 : fs[1]? = some (.ref (q + 1))) (g2 : fs[2]? = some (.ref (q + 2))) (g3 : fs[3]? = some (.ref (q + 3))) : ∀ d n (σ : zS) (f0 f1 f2 : Nat → Int32), σ q = some (.inr (2, fs)) → σ (q + 1) = some (.inl (1, 8, .inl f0)) → σ (q + 2) = some (.inl (1, 8, .inl f1)) → σ (q + 3) = some (.inl (1, 8, .inl f2)) → d ≤ 7 → d < n → ∃ σ', m_X2_write_L4 N n σ q u v w (nI d) = some σ' ∧ σ' (q + 1) = some (.inl (1, 8, .inl (shf f0 0 d))) ∧ σ' (q + 2) = some (.inl (1, 8, .inl (shf f1 0 d))) ∧ σ' (q + 3) = some (.inl (1, 8, .inl (shf f2 0 d))) ∧ ∀ x, (x ≤ q ∨ q + 4 ≤ x) → σ' x = σ x := by
  intro d
  induction d with
  | zero =>
    intro n σ f0 f1 f2 h h1 h2 h3 hd hn
    obtain ⟨n, rfl⟩ : ∃ m, n = m + 1 := ⟨n - 1, by omega⟩
    rw [m_X2_write_L4, if_pos (show nI 0 ≤ 0 by decide), shf_0, shf_0, shf_0]
    exact ⟨σ, rfl, h1, h2, h3, fun _ _ => rfl⟩
  | succ d ih =>
    intro n σ f0 f1 f2 h h1 h2 h3 hd hn
    obtain ⟨n, rfl⟩ : ∃ m, n = m + 1 := ⟨n - 1, by omega⟩
    have s0 : ∀ f : Nat → Int32, shf (upd f (d + 1) (f d)) 0 d = shf f 0 (d + 1) := fun f => by
      have := shf_s f 0 d
      rw [Nat.zero_add] at this
      exact this
    have zz : ∀ (σ' : zS) e, zup σ' (q + 1) e q = σ' q ∧ zup σ' (q + 2) e q = σ' q ∧ zup σ' (q + 3) e q = σ' q := fun σ' e => ⟨zup_ne _ _ (by omega), zup_ne _ _ (by omega), zup_ne _ _ (by omega)⟩
    rw [m_X2_write_L4, if_neg (nI_nle (by omega) (by omega)), gA_at h g1, Option.bind_some, Option.bind_some, nI_pred, aI_at h1 rfl (by omega) (by decide), Option.bind_some, uI_at h1 rfl (by omega) (by decide), Option.bind_some]
    have a2 : zup σ (q + 1) (.inl (1, 8, .inl (upd f0 (d + 1) (f0 d)))) (q + 2) = some (.inl (1, 8, .inl f1)) := by rw [zup_ne _ _ (by omega)]; exact h2
    rw [gA_at ((zz _ _).1.trans h) g2, Option.bind_some, Option.bind_some, aI_at a2 rfl (by omega) (by decide), Option.bind_some, uI_at a2 rfl (by omega) (by decide), Option.bind_some]
    have a3 : zup (zup σ (q + 1) (.inl (1, 8, .inl (upd f0 (d + 1) (f0 d))))) (q + 2) (.inl (1, 8, .inl (upd f1 (d + 1) (f1 d)))) (q + 3) = some (.inl (1, 8, .inl f2)) := by rw [zup_ne _ _ (by omega), zup_ne _ _ (by omega)]; exact h3
    rw [gA_at ((zz _ _).2.1.trans ((zz _ _).1.trans h)) g3, Option.bind_some, Option.bind_some, aI_at a3 rfl (by omega) (by decide), Option.bind_some, uI_at a3 rfl (by omega) (by decide), Option.bind_some, Option.bind_some, pk_m1]
    obtain ⟨σ', e0, e1, e2, e3, e4⟩ := ih n (zup (zup (zup σ (q + 1) (.inl (1, 8, .inl (upd f0 (d + 1) (f0 d))))) (q + 2) (.inl (1, 8, .inl (upd f1 (d + 1) (f1 d))))) (q + 3) (.inl (1, 8, .inl (upd f2 (d + 1) (f2 d))))) (upd f0 (d + 1) (f0 d)) (upd f1 (d + 1) (f1 d)) (upd f2 (d + 1) (f2 d)) ((zz _ _).2.2.trans ((zz _ _).2.1.trans ((zz _ _).1.trans h))) (by rw [zup_ne _ _ (by omega), zup_ne _ _ (by omega), zup_same]) (by rw [zup_ne _ _ (by omega), zup_same]) (zup_same _ _ _) (by omega) (by omega)
    rw [s0] at e1 e2 e3
    exact ⟨σ', e0, e1, e2, e3, fun x hx => by rw [e4 x hx, zup_ne _ _ (by omega), zup_ne _ _ (by omega), zup_ne _ _ (by omega)]⟩
theorem X2_write {N q l : Nat} {σ : zS} {K : Nat → Nat → Int32} {u v w : Int32} (hN : 50 < N) (hl : l ≤ 8) (h : Lo σ q l K) : ∃ σ', m_X2_write N σ q u v w = some σ' ∧ Lo σ' q (min (l + 1) 8) (fun k c => if k = 0 then (if c = 0 then u else if c = 1 then v else w) else K (k - 1) c) ∧ ∀ x, (x < q ∨ q + 4 ≤ x) → σ' x = σ x := by
  obtain ⟨h0, f0, f1, f2, h1, h2, h3, h4⟩ := h
  obtain ⟨σ1, e0, e1, e2, e3, e4⟩ := X2_writeL (N := N) (u := u) (v := v) (w := w) (fs := [.int (nI l), .ref (q + 1), .ref (q + 2), .ref (q + 3)]) rfl rfl rfl 7 N σ f0 f1 f2 h0 h1 h2 h3 (by omega) (by omega)
  have q1 : σ1 q = _ := (e4 q (by omega)).trans h0
  have em : imin (nI l + 1) 8 = nI (min (l + 1) 8) := by rw [nI_1, show (8 : Int32) = nI 8 from rfl, imin_nI (by omega) (by decide)]
  unfold m_X2_write
  rw [show (7 : Int32) = nI 7 from rfl, e0, Option.bind_some, gA_at q1 rfl, Option.bind_some, uI_at e1 (x := 0) (k := 0) rfl (by decide) (by decide), Option.bind_some]
  have a2 : zup σ1 (q + 1) (.inl (1, 8, .inl (upd (shf f0 0 7) 0 u))) (q + 2) = some (.inl (1, 8, .inl (shf f1 0 7))) := by rw [zup_ne _ _ (by omega)]; exact e2
  have q2 : zup σ1 (q + 1) (.inl (1, 8, .inl (upd (shf f0 0 7) 0 u))) q = _ := (zup_ne _ _ (by omega)).trans q1
  rw [gA_at q2 rfl, Option.bind_some, uI_at a2 (x := 0) (k := 0) rfl (by decide) (by decide), Option.bind_some]
  have a3 : zup (zup σ1 (q + 1) (.inl (1, 8, .inl (upd (shf f0 0 7) 0 u)))) (q + 2) (.inl (1, 8, .inl (upd (shf f1 0 7) 0 v))) (q + 3) = some (.inl (1, 8, .inl (shf f2 0 7))) := by rw [zup_ne _ _ (by omega), zup_ne _ _ (by omega)]; exact e3
  have q3 : zup (zup σ1 (q + 1) (.inl (1, 8, .inl (upd (shf f0 0 7) 0 u)))) (q + 2) (.inl (1, 8, .inl (upd (shf f1 0 7) 0 v))) q = _ := (zup_ne _ _ (by omega)).trans q2
  rw [gA_at q3 rfl, Option.bind_some, uI_at a3 (x := 0) (k := 0) rfl (by decide) (by decide), Option.bind_some]
  have q4 : zup (zup (zup σ1 (q + 1) (.inl (1, 8, .inl (upd (shf f0 0 7) 0 u)))) (q + 2) (.inl (1, 8, .inl (upd (shf f1 0 7) 0 v)))) (q + 3) (.inl (1, 8, .inl (upd (shf f2 0 7) 0 w))) q = _ := (zup_ne _ _ (by omega)).trans q3
  rw [gI_at q4 rfl, Option.bind_some, em, sI_at q4 (Nat.le_of_ble_eq_true rfl), Option.bind_some]
  refine ⟨_, rfl, ⟨by rw [zup_same]; rfl, _, _, _, by rw [zup_ne _ _ (by omega), zup_ne _ _ (by omega), zup_ne _ _ (by omega), zup_same], by rw [zup_ne _ _ (by omega), zup_ne _ _ (by omega), zup_same], by rw [zup_ne _ _ (by omega), zup_same], fun k hk hk8 => ?_⟩, fun x hx => by rw [zup_ne _ _ (by omega), zup_ne _ _ (by omega), zup_ne _ _ (by omega), zup_ne _ _ (by omega), e4 x (by omega)]⟩
  dsimp only
  by_cases c : k = 0
  · subst c
    rw [upd_same, upd_same, upd_same, if_pos rfl, if_pos rfl, if_pos rfl, if_pos rfl, if_neg (by decide), if_pos rfl, if_neg (by decide), if_neg (by decide)]
    exact ⟨rfl, rfl, rfl⟩
  · have hs : ∀ f : Nat → Int32, shf f 0 7 k = f (k - 1) := fun f => by
      unfold shf
      rw [if_pos (by omega)]
    rw [upd_ne _ _ c, upd_ne _ _ c, upd_ne _ _ c, if_neg c, if_neg c, if_neg c, hs, hs, hs]
    exact h4 (k - 1) (by omega) (by omega)
theorem X5_beginAgain {N : Nat} {σ : zS} {q : Nat} {r g : Nat → Int32} (hN : 1050 < N) (h : Tb σ q r g) : ∃ σ', m_X5_beginAgain N σ q = some σ' ∧ Tb σ' q (zrR (r 0) (r 1) (r 3 + 1)) (fun _ => 0) ∧ ∀ x, (x < q ∨ q + 5 ≤ x) → σ' x = σ x := by
  obtain ⟨σ1, e1, e2, e3⟩ := X5_begin (N := N) (k := r 0) (sd := r 1) hN h
  unfold m_X5_beginAgain
  have e2' := e2
  obtain ⟨h1, h2, f, h3, h4⟩ := e2
  rw [h.o.2.2.2.2.1, Option.bind_some, h.o.2.1, Option.bind_some, h.2.1.fld.1, Option.bind_some, Option.bind_some, h.2.1.fld.2.1, Option.bind_some, h.o.1, Option.bind_some, e1, Option.bind_some, sI_at h1 (Nat.le_of_ble_eq_true rfl), Option.bind_some]
  have ez : ∀ j, j ≠ 3 → zrR (r 0) (r 1) 0 j = zrR (r 0) (r 1) (r 3 + 1) j := fun j hj => by
    unfold zrR
    rw [if_neg hj, if_neg hj]
  refine ⟨_, rfl, ⟨?_, ?_, f, by rw [zup_ne _ _ (by omega)]; exact h3, h4⟩, fun x hx => by rw [zup_ne _ _ (by omega), e3 x hx]⟩
  · rw [zup_same, zrR_3, ← ez 22 (by decide)]
    rfl
  · have : Sk (zup σ1 q (.inr (5, ([.ref (q + 1), .ref (q + 4), .int (zrR (r 0) (r 1) 0 22), .int (zrR (r 0) (r 1) 0 3)] : List Value).set 3 (.int (r 3 + 1))))) (q + 1) (zrR (r 0) (r 1) 0) := h2.keep (fun x _ _ => zup_ne _ _ (by omega))
    obtain ⟨hs, rg, b1, b2, b3, b4, b5⟩ := this
    refine ⟨hs, rg, ?_, b2, b3, fun j hj hlt => ?_, fun j hj => ?_⟩
    · rw [← ez 0 (by decide), ← ez 1 (by decide), ← ez 2 (by decide), ← ez 4 (by decide), ← ez 5 (by decide)]
      exact b1
    · rw [← ez _ (by omega)]
      exact b4 j hj (by rw [ez 5 (by decide)]; exact hlt)
    · rw [← ez _ (by omega)]
      exact b5 j hj
def rsK (s : AS) (i : Nat) : Nat → Nat → Int32 := fun k c => if k = 0 then (if c = 0 then nI i else if c = 1 then nI (toldN (sR s i)) else sR s i 22) else sK s (k - 1) c
def rsS (s : AS) (i : Nat) : AS := (sM s, sT s, min (sL s + 1) 8, fun k => if k = i then zrR (sR s i 0) (sR s i 1) (sR s i 3 + 1) else sR s k, fun k => if k = i then (fun _ => 0) else sG s k, rsK s i)
theorem rsS_R (s : AS) (i : Nat) : sR (rsS s i) i = zrR (sR s i 0) (sR s i 1) (sR s i 3 + 1) ∧ sG (rsS s i) i = (fun _ => 0) := ⟨if_pos rfl, if_pos rfl⟩
theorem rsS_R' (s : AS) (i : Nat) {k : Nat} (h : k ≠ i) : sR (rsS s i) k = sR s k ∧ sG (rsS s i) k = sG s k := ⟨if_neg h, if_neg h⟩
theorem WS_rs {s : AS} {i : Nat} (h : WS s) (hi : i < sM s) : WS (rsS s i) := ⟨h.1, h.2.1, Nat.min_le_right _ _, fun k hk => by
  by_cases c : k = i
  · rw [c, (rsS_R s i).1, (rsS_R s i).2]
    have hr := (h.2.2.2 i hi).1.1
    have hs := hr.sd
    rw [hs.2]
    rcases hr.1 with e | e | e
    · rw [e]
      exact WT_zr (k := 0) _ (by omega) hs.1
    · rw [e]
      exact WT_zr (k := 1) _ (by omega) hs.1
    · rw [e]
      exact WT_zr (k := 2) _ (by omega) hs.1
  · rw [(rsS_R' s i c).1, (rsS_R' s i c).2]
    exact h.2.2.2 k hk⟩
theorem act_reset {N : Nat} {σ : zS} {a i : Nat} {s : AS} (hN : 7000 < N) (h : St σ a s) (hW : WS s) (hi : i < sM s) : ∃ σ', m_X4_empty N σ a (nI i) = some (sR s i 22, σ') ∧ St σ' a (rsS s i) ∧ ∀ x, (x < a ∨ a + 36 ≤ x) → σ' x = σ x := by
  have hM := hW.1
  have ti := h.tb hi
  have hw := (hW.2.2.2 i hi).1
  have o := h.o
  have hf := h.find_in (N := N) hM hi
  obtain ⟨h1, ⟨f, h2, h3⟩, h4, h5, h6⟩ := h
  obtain ⟨σ1, a1, a2, a3⟩ := X2_write (N := N) (u := nI i) (v := nI (toldN (sR s i))) (w := sR s i 22) (by omega) hW.2.2.1 h4
  have t1 : Tb σ1 (a + 6 + 5 * i) (sR s i) (sG s i) := ti.keep (fun x _ _ => a3 x (by omega))
  obtain ⟨σ2, b1, b2, b3⟩ := X5_beginAgain (N := N) (by omega) t1
  refine ⟨σ2, ?_, ⟨by rw [b3 _ (by omega), a3 _ (by omega)]; exact h1, ⟨f, by rw [b3 _ (by omega), a3 _ (by omega)]; exact h2, h3⟩, a2.keep (fun x _ _ => b3 x (by omega)), fun k hk => ?_, fun k hk => ?_⟩, fun x hx => by rw [b3 _ (by omega), a3 _ (by omega)]⟩
  · unfold m_X4_empty
    rw [o.1, Option.bind_some, hf, Option.bind_some, Option.elim_some, ti.o.2.2.2.1, Option.bind_some, o.2.2.1, Option.bind_some, ti.o.2.1, Option.bind_some, ti.o.2.2.2.2.2, Option.bind_some, X3_told (by omega) ti.2.1 hw.1, Option.bind_some, isO_at h4.1, Option.bind_some, a1, Option.bind_some, t1.o.1, Option.bind_some, b1, Option.bind_some]
  · by_cases c : k = i
    · rw [c]
      exact ⟨_, _, b2⟩
    · obtain ⟨r, g, ht⟩ := h5 k hk
      exact ⟨r, g, ht.keep (fun x _ _ => by rw [b3 _ (by omega), a3 _ (by omega)])⟩
  · have hk' : k < sM s := hk
    by_cases c : k = i
    · rw [c, (rsS_R s i).1, (rsS_R s i).2]
      exact b2
    · rw [(rsS_R' s i c).1, (rsS_R' s i c).2]
      exact (h6 k hk').keep (fun x _ _ => by rw [b3 _ (by omega), a3 _ (by omega)])
-- the reference
theorem X9_downL {N M : Nat} {u : Int32} : ∀ d j n (σ : zS) (F : Nat → Int32), MB σ M → σ (M + 1) = some (.inl (1, 6165, .inl F)) → j + d = 21 → d < n → ∃ F' : Nat → Int32, m_X9_resetsOne_L25 N n σ M u (nI j) = some (zup σ (M + 1) (.inl (1, 6165, .inl F'))) ∧ (∀ k, j ≤ k → k < 21 → F' (141 + k) = F (144 + k)) ∧ ∀ y, (y < 141 + j ∨ 162 ≤ y) → F' y = F y := by
  intro d
  induction d with
  | zero =>
    intro j n σ F h hF hj hn
    obtain ⟨n, rfl⟩ : ∃ m, n = m + 1 := ⟨n - 1, by omega⟩
    rw [m_X9_resetsOne_L25, if_pos (by rw [show j = 21 by omega]; decide)]
    exact ⟨F, by rw [zup_id hF], fun k h1 h2 => by omega, fun _ _ => rfl⟩
  | succ d ih =>
    intro j n σ F h hF hj hn
    obtain ⟨n, rfl⟩ : ∃ m, n = m + 1 := ⟨n - 1, by omega⟩
    obtain ⟨F', e1, e2, e3⟩ := ih (j + 1) n (zup σ (M + 1) (.inl (1, 6165, .inl (upd F (141 + j) (F (144 + j)))))) _ (h.keep (zup_ne _ _ (by omega))) (zup_same _ _ _) (by omega) (by omega)
    rw [zup_zup] at e1
    rw [m_X9_resetsOne_L25, if_neg (litge 21 (by omega) (by decide)), h.o.2.1, Option.bind_some, Option.bind_some, aI_at hF (k := 144 + j) (by simp only [nlit, nI_add]) (by omega) (by decide), Option.bind_some, uI_at hF (k := 141 + j) (by simp only [nlit, nI_add]) (by omega) (by decide), Option.bind_some, Option.bind_some, nI_1, e1]
    refine ⟨F', rfl, fun k h1 h2 => ?_, fun y hy => ?_⟩
    · by_cases ck : k = j
      · rw [ck, e3 _ (by omega), upd_same]
      · rw [e2 k (by omega) h2, upd_ne _ _ (by omega)]
    · rw [e3 y (by omega), upd_ne _ _ (by omega)]
theorem X9_againL {N M i : Nat} {w : Int32} (hi : i < 6) : ∀ d j n (σ : zS) (F : Nat → Int32), MB σ M → σ (M + 1) = some (.inl (1, 6165, .inl F)) → j + d = 23 → d < n → ∃ F' : Nat → Int32, m_X9_resetsOne_L134 N n σ M (nI i) w (nI j) = some (zup σ (M + 1) (.inl (1, 6165, .inl F'))) ∧ (∀ k, j ≤ k → k < 23 → F' (23 * i + k) = if k = 3 then F (23 * i + 3) + 1 else 0) ∧ ∀ y, (y < 23 * i + j ∨ 23 * i + 23 ≤ y) → F' y = F y := by
  intro d
  induction d with
  | zero =>
    intro j n σ F h hF hj hn
    obtain ⟨n, rfl⟩ : ∃ m, n = m + 1 := ⟨n - 1, by omega⟩
    rw [m_X9_resetsOne_L134, if_pos (by rw [show j = 23 by omega]; decide)]
    exact ⟨F, by rw [zup_id hF], fun k h1 h2 => by omega, fun _ _ => rfl⟩
  | succ d ih =>
    intro j n σ F h hF hj hn
    obtain ⟨n, rfl⟩ : ∃ m, n = m + 1 := ⟨n - 1, by omega⟩
    obtain ⟨y, hy⟩ : ∃ y : Int32, y = if j = 3 then F (23 * i + 3) + 1 else 0 := ⟨_, rfl⟩
    have e0 : (if nI j = 3 then ((gA σ 9 0 M).bind fun a58 => (aI 1 σ a58 ((23 * nI i) + nI j)).bind fun x60 => some (x60 + 1)) else some 0) = some y := by
      by_cases c : j = 3
      · rw [if_pos (by rw [c]; rfl), h.o.2.1, Option.bind_some, aI_at hF (k := 23 * i + j) (by simp only [nlit, pk_mul, nI_add]) (by omega) (by decide), Option.bind_some, hy, if_pos c, c]
      · rw [if_neg (by rw [show (3 : Int32) = nI 3 from rfl, nI_eq (by omega) (by decide)]; exact c), hy, if_neg c]
    obtain ⟨F', e1, e2, e3⟩ := ih (j + 1) n (zup σ (M + 1) (.inl (1, 6165, .inl (upd F (23 * i + j) y)))) _ (h.keep (zup_ne _ _ (by omega))) (zup_same _ _ _) (by omega) (by omega)
    rw [zup_zup] at e1
    rw [m_X9_resetsOne_L134, if_neg (litge 23 (by omega) (by decide)), e0, h.o.2.1, Option.bind_some, Option.bind_some, uI_at hF (k := 23 * i + j) (by simp only [nlit, pk_mul, nI_add]) (by omega) (by decide), Option.bind_some, Option.bind_some, nI_1, e1]
    refine ⟨F', rfl, fun k h1 h2 => ?_, fun z hz => ?_⟩
    · by_cases ck : k = j
      · rw [ck, e3 _ (by omega), upd_same, hy]
      · rw [e2 k (by omega) h2]
        by_cases c3 : k = 3
        · rw [if_pos c3, if_pos c3, upd_ne _ _ (by omega)]
        · rw [if_neg c3, if_neg c3]
    · rw [e3 z (by omega), upd_ne _ _ (by omega)]
def lgS (s : AS) (l : Nat) : AS := (sM s, sT s, l, sR s, sG s, sK s)
theorem md_reset_1 {N : Nat} {σ : zS} {M : Nat} {u : Int32} {s : AS} (hN : 50 < N) (h : Nw σ M s) (hW : WS s) : ∃ F1 : Nat → Int32, (if nI (sL s) = 8 then ((m_X9_resetsOne_L25 N N σ M u 0).bind fun σ12 => (gA σ12 9 0 M).bind fun a14 => (aI 1 σ12 a14 140).bind fun x16 => (uI 1 σ12 a14 140 (x16 - 1)).bind fun σ18 => some σ18) else (some σ)) = some (zup σ (M + 1) (.inl (1, 6165, .inl F1))) ∧ FR F1 (lgS s (min (sL s) 7)) := by
  have hM := hW.1
  have hL := hW.2.2.1
  obtain ⟨nb, F, nF, fr⟩ := h
  by_cases c : sL s = 8
  · obtain ⟨F1, a1, a2, a3⟩ := X9_downL (N := N) (u := u) 21 0 N σ F nb nF rfl (by omega)
    have z1 := zup_same σ (M + 1) (.inl (1, 6165, .inl F1))
    have r1 := aI_at z1 (x := 140) (k := 140) rfl (by omega) (by decide)
    rw [a3 140 (by omega), fr.2.2.1, c] at r1
    have b1 := uI_at z1 (x := 140) (k := 140) (y := nI 8 - 1) rfl (by omega) (by decide)
    rw [zup_zup] at b1
    rw [if_pos (by rw [c]; rfl), show m_X9_resetsOne_L25 N N σ M u 0 = _ from a1, Option.bind_some, (nb.keep (zup_ne _ _ (by omega))).o.2.1, Option.bind_some, r1, Option.bind_some, b1, Option.bind_some]
    refine ⟨_, rfl, ?_, ?_, ?_, fun i hi => ?_, fun k hk w hw => ?_⟩
    · rw [upd_ne _ _ (by omega), a3 _ (by omega)]
      exact fr.1
    · rw [upd_ne _ _ (by omega), a3 _ (by omega)]
      exact fr.2.1
    · rw [upd_same]
      show nI 8 - 1 = nI (min (sL s) 7)
      rw [c]
      rfl
    · have hi' : i < sM s := hi
      exact ⟨fun j hj => by rw [upd_ne _ _ (by omega), a3 _ (by omega)]; exact (fr.2.2.2.1 i hi').1 j hj, fun x hx => by rw [upd_ne _ _ (by omega), a3 _ (by omega)]; exact (fr.2.2.2.1 i hi').2 x hx⟩
    · have hk' : k < min (sL s) 7 := hk
      show (upd F1 140 (nI 8 - 1)) (141 + 3 * (min (sL s) 7 - 1 - k) + w) = sK s k w
      rw [upd_ne _ _ (by omega), show 141 + 3 * (min (sL s) 7 - 1 - k) + w = 141 + (3 * (min (sL s) 7 - 1 - k) + w) by omega, a2 _ (Nat.zero_le _) (by omega), ← fr.2.2.2.2 k (by omega) w hw]
      congr 1
      omega
  · rw [if_neg (by rw [show (8 : Int32) = nI 8 from rfl, nI_eq (by omega) (by decide)]; exact c)]
    refine ⟨F, by rw [zup_id nF], ?_⟩
    have : lgS s (min (sL s) 7) = s := by
      unfold lgS
      rw [Nat.min_eq_left (by omega)]
      rfl
    rw [this]
    exact fr
theorem md_reset {N : Nat} {σ : zS} {M i : Nat} {s : AS} (hN : 7000 < N) (h : Nw σ M s) (hW : WS s) (hi : i < sM s) : ∃ F' : Nat → Int32, m_X9_resetsOne N σ M (nI i) = some (sR s i 22, zup σ (M + 1) (.inl (1, 6165, .inl F'))) ∧ FR F' (rsS s i) := by
  have hM := hW.1
  have hL := hW.2.2.1
  have hw := (hW.2.2.2 i hi).1
  obtain ⟨F1, a1, a2⟩ := md_reset_1 (N := N) (u := nI i) (by omega) h hW
  have n1 : Nw (zup σ (M + 1) (.inl (1, 6165, .inl F1))) M (lgS s (min (sL s) 7)) := h.of a2
  have w1 : WS (lgS s (min (sL s) 7)) := ⟨hW.1, hW.2.1, by show min (sL s) 7 ≤ 8; omega, hW.2.2.2⟩
  have ex := X9_exact (N := N) n1 w1 hi
  generalize hl : min (sL s) 7 = l at a1 a2 n1 w1 ex
  have hl7 : l ≤ 7 := by omega
  have ex' : m_X9_exact N (zup σ (M + 1) (.inl (1, 6165, .inl F1))) M (nI i) = some (sR s i 22) := ex
  have nb := h.1
  obtain ⟨-, F, nF, fr⟩ := h
  have nz : ∀ F2 : Nat → Int32, MB (zup σ (M + 1) (.inl (1, 6165, .inl F2))) M := fun F2 => nb.keep (zup_ne _ _ (by omega))
  have r0 := aI_at nF (x := 140) (k := 140) rfl (by omega) (by decide)
  rw [fr.2.2.1] at r0
  have z1 := zup_same σ (M + 1) (.inl (1, 6165, .inl F1))
  have r1 := aI_at z1 (x := 140) (k := 140) rfl (by omega) (by decide)
  rw [show F1 140 = nI l from a2.2.2.1] at r1
  have b1 := uI_at z1 (x := 141 + 3 * nI l) (k := 141 + 3 * l) (y := nI i) (by simp only [nlit, pk_mul, nI_add]) (by omega) (by decide)
  rw [zup_zup] at b1
  have fr2 : FR (upd F1 (141 + 3 * l) (nI i)) (lgS s l) := by
    obtain ⟨c1, c2, c3, c4, c5⟩ := a2
    refine ⟨by rw [upd_ne _ _ (by omega)]; exact c1, by rw [upd_ne _ _ (by omega)]; exact c2, by rw [upd_ne _ _ (by omega)]; exact c3, fun k hk => ?_, fun k hk w hw => ?_⟩
    · have hk' : k < sM s := hk
      exact ⟨fun j hj => by rw [upd_ne _ _ (by omega)]; exact (c4 k hk).1 j hj, fun x hx => by rw [upd_ne _ _ (by omega)]; exact (c4 k hk).2 x hx⟩
    · have hk' : k < l := hk
      rw [upd_ne _ _ (by show 141 + 3 * (l - 1 - k) + w ≠ 141 + 3 * l; omega)]
      exact c5 k hk w hw
  have n2 : Nw (zup σ (M + 1) (.inl (1, 6165, .inl (upd F1 (141 + 3 * l) (nI i))))) M (lgS s l) := ⟨nz _, _, zup_same _ _ _, fr2⟩
  have tl : m_X9_toldOf N (zup σ (M + 1) (.inl (1, 6165, .inl (upd F1 (141 + 3 * l) (nI i))))) M (nI i) = some (nI (toldN (sR s i))) := X9_toldOf (s := lgS s l) (by omega) n2 w1 hi
  have z2 := zup_same σ (M + 1) (.inl (1, 6165, .inl (upd F1 (141 + 3 * l) (nI i))))
  have b2 := uI_at z2 (x := 141 + 3 * nI l + 1) (k := 141 + 3 * l + 1) (y := nI (toldN (sR s i))) (by simp only [nlit, pk_mul, nI_add]) (by omega) (by decide)
  rw [zup_zup] at b2
  have z3 := zup_same σ (M + 1) (.inl (1, 6165, .inl (upd (upd F1 (141 + 3 * l) (nI i)) (141 + 3 * l + 1) (nI (toldN (sR s i))))))
  have b3 := uI_at z3 (x := 141 + 3 * nI l + 2) (k := 141 + 3 * l + 2) (y := sR s i 22) (by simp only [nlit, pk_mul, nI_add]) (by omega) (by decide)
  rw [zup_zup] at b3
  generalize hG : upd (upd (upd F1 (141 + 3 * l) (nI i)) (141 + 3 * l + 1) (nI (toldN (sR s i)))) (141 + 3 * l + 2) (sR s i 22) = G3 at b3
  have gw : G3 (141 + 3 * l) = nI i ∧ G3 (141 + 3 * l + 1) = nI (toldN (sR s i)) ∧ G3 (141 + 3 * l + 2) = sR s i 22 := by
    rw [← hG]
    exact ⟨by rw [upd_ne _ _ (by omega), upd_ne _ _ (by omega), upd_same], by rw [upd_ne _ _ (by omega), upd_same], upd_same _ _ _⟩
  have go : ∀ y, (y < 141 + 3 * l ∨ 141 + 3 * l + 3 ≤ y) → G3 y = F1 y := fun y hy => by
    rw [← hG, upd_ne _ _ (by omega), upd_ne _ _ (by omega), upd_ne _ _ (by omega)]
  have z4 := zup_same σ (M + 1) (.inl (1, 6165, .inl G3))
  have r4 := aI_at z4 (x := 140) (k := 140) rfl (by omega) (by decide)
  rw [go 140 (by omega), show F1 140 = nI l from a2.2.2.1] at r4
  have b4 := uI_at z4 (x := 140) (k := 140) (y := nI l + 1) rfl (by omega) (by decide)
  rw [zup_zup] at b4
  obtain ⟨F5, d1, d2, d3⟩ := X9_againL (N := N) (i := i) (w := sR s i 22) (by omega) 21 2 N _ _ (nz _) (zup_same σ (M + 1) (.inl (1, 6165, .inl (upd G3 140 (nI l + 1))))) rfl (by omega)
  rw [zup_zup] at d1
  obtain ⟨F6, e1, e2, e3⟩ := X9_forgets (N := N) (i := i) (by omega) (by omega) (nz _) (zup_same σ (M + 1) (.inl (1, 6165, .inl F5)))
  rw [zup_zup] at e1
  have row1 : ∀ k, k < sM s → (∀ j, j < 23 → F1 (23 * k + j) = sR s k j) ∧ ∀ x, x < 1000 → F1 (165 + 1000 * k + x) = sG s k x := fun k hk => a2.2.2.2.1 k hk
  refine ⟨F6, ?_, ?_, ?_, ?_, fun k hk => ?_, fun k hk w hw => ?_⟩
  · unfold m_X9_resetsOne
    rw [nb.o.1, Option.bind_some, X9_isTable_in ⟨nb, F, nF, fr⟩ hM hi, Option.bind_some, if_neg ne10, nb.o.2.1, Option.bind_some, r0, Option.bind_some]
    rw [a1, Option.bind_some]
    simp only [(nz _).o.2.1, (nz _).o.1, bsm, r1, ex', b1, tl, b2, b3, r4, b4]
    rw [show m_X9_resetsOne_L134 N N _ M (nI i) _ 2 = _ from d1, Option.bind_some, (nz _).o.1, Option.bind_some, e1, Option.bind_some]
  · rw [e3 _ (by omega), d3 _ (by omega), upd_ne _ _ (by omega), go _ (by omega)]
    exact a2.1
  · rw [e3 _ (by omega), d3 _ (by omega), upd_ne _ _ (by omega), go _ (by omega)]
    exact a2.2.1
  · rw [e3 _ (by omega), d3 _ (by omega), upd_same, nI_1]
    show nI (l + 1) = nI (min (sL s + 1) 8)
    rw [show l + 1 = min (sL s + 1) 8 by omega]
  · have hk' : k < sM s := hk
    by_cases c : k = i
    · rw [c, (rsS_R s i).1, (rsS_R s i).2]
      refine ⟨fun j hj => ?_, fun x hx => e2 x hx⟩
      rw [e3 _ (by omega)]
      by_cases c0 : j < 2
      · rw [d3 _ (by omega), upd_ne _ _ (by omega), go _ (by omega), (row1 i hi).1 j hj]
        unfold zrR
        by_cases c1 : j = 0
        · rw [if_pos c1, c1]
        · rw [if_neg c1, if_pos (by omega), show j = 1 by omega]
      · rw [d2 j (by omega) hj]
        unfold zrR
        rw [if_neg (show ¬ j = 0 by omega), if_neg (show ¬ j = 1 by omega), upd_ne _ _ (by omega), go _ (by omega), (row1 i hi).1 3 (by omega)]
    · rw [(rsS_R' s i c).1, (rsS_R' s i c).2]
      exact ⟨fun j hj => by rw [e3 _ (by omega), d3 _ (by omega), upd_ne _ _ (by omega), go _ (by omega), (row1 k hk').1 j hj], fun x hx => by rw [e3 _ (by omega), d3 _ (by omega), upd_ne _ _ (by omega), go _ (by omega), (row1 k hk').2 x hx]⟩
  · have hk' : k < min (sL s + 1) 8 := hk
    show F6 (141 + 3 * (min (sL s + 1) 8 - 1 - k) + w) = rsK s i k w
    rw [e3 _ (by omega), d3 _ (by omega), upd_ne _ _ (by omega), show min (sL s + 1) 8 - 1 - k = l - k by omega]
    unfold rsK
    by_cases c : k = 0
    · rw [if_pos c, c, Nat.sub_zero]
      have : w = 0 ∨ w = 1 ∨ w = 2 := by omega
      rcases this with rfl | rfl | rfl
      · rw [if_pos rfl]
        exact gw.1
      · rw [if_neg (by decide), if_pos rfl]
        exact gw.2.1
      · rw [if_neg (by decide), if_neg (by decide)]
        exact gw.2.2
    · rw [if_neg c, go _ (by omega)]
      have := a2.2.2.2.2 (k - 1) (by show k - 1 < l; omega) w hw
      rw [← show sK (lgS s l) (k - 1) w = sK s (k - 1) w from rfl, ← this]
      congr 1
      show 141 + 3 * (l - k) + w = 141 + 3 * (l - 1 - (k - 1)) + w
      omega
theorem cmd_reset {N : Nat} {s : AS} (hN : 7000 < N) (hW : WS s) (v : Int32) : Cmd (fun σ a => (isO σ 4 a).bind fun u39 => (m_X4_find N σ a v).bind fun r42 => Option.elim r42 (some (-1)) fun a43 => some 0) (fun σ a => m_X4_empty N σ a v) (fun σ M => m_X9_resetsOne N σ M v) s := by
  have hM := hW.1
  rcases tbl_cases s hM v with ⟨i, hi, rfl⟩ | hv
  · have hw := hW.2.2.2 i hi
    have := cntG_le (sG s i)
    refine Or.inr ⟨sR s i 22, rsS s i, by rw [hw.2.1]; exact nI_pos' (by omega), WS_rs hW hi, fun σ a h => ?_, fun σ a h => act_reset hN h hW hi, fun σ M h => md_reset hN h hW hi⟩
    dsimp only
    rw [h.o.1, Option.bind_some, h.find_in hM hi, Option.bind_some, Option.elim_some]
  · refine Or.inl ⟨-1, by decide, fun σ a h => ?_, fun σ M h => ?_⟩
    · dsimp only
      rw [h.o.1, Option.bind_some, h.find_out hv, Option.bind_some, Option.elim_none]
    · dsimp only
      unfold m_X9_resetsOne
      rw [h.1.o.1, Option.bind_some, X9_isTable_out h hM hv, Option.bind_some, if_pos rfl]
