/-! Pure, 25: fault, play -/
theorem CR.trial {σ σ' : zS} {b n len : Nat} {s : AS} {H : Nat → AS} {T : Nat → Int32} {R : RS} (hW : WH s n H T len) (h : CR σ b s n H T len) (hk : ∀ x, (x < b + 187 ∨ b + 226 ≤ x) → σ' x = σ x) (hr : RunC σ' b R) : CR σ' b s n H T len := by
  obtain ⟨h1, h2, h3, ⟨h4, f, h5, h6⟩, h7, -, -, -, r, h11⟩ := h
  obtain ⟨g1, g2, d, a, re, ca, g3, -⟩ := hr
  exact ⟨by rw [hk _ (by omega)]; exact h1, h2.keep hW.1.1 (fun x _ _ => hk x (by omega)), h3.keep hW.2.2.1 hW.2.1 (fun x _ _ => hk x (by omega)), ⟨by rw [hk _ (by omega)]; exact h4, f, by rw [hk _ (by omega)]; exact h5, h6⟩, h7.keep (fun x _ _ => hk x (by omega)), ⟨d, a, re, ca, g3⟩, g2, g1, r, h11.keep (fun x _ _ => hk x (by omega))⟩
theorem WH.chs {s : AS} {n len : Nat} {H : Nat → AS} {T : Nat → Int32} (h : WH s n H T len) : Chs T len := h.2.2.2
theorem run_all {N M b n len : Nat} {σ : zS} {s : AS} {H : Nat → AS} {T : Nat → Int32} (hN : 7000 < N) (hW : WH s n H T len) (hC : CR σ b s n H T len) : ∃ (R : RS) (σ' : zS), m_X7_run N σ (b + 187) (b + 183) (b + 1) = some σ' ∧ (∀ x, (x < b + 187 ∨ b + 226 ≤ x) → σ' x = σ x) ∧ RV R ∧ RunC σ' b R ∧ RunM N M len T N 0 0 s R := by
  have hl := hW.2.2.2.1
  obtain ⟨d, a, re, ca, ho⟩ := hC.2.2.2.2.2.1
  have hsh := hC.2.2.2.2.2.2.1
  have hcd := hC.2.2.2.2.2.2.2.1
  obtain ⟨u, hu, hu2⟩ := id hsh
  obtain ⟨σ1, a1, a2, a3⟩ := X4_copyFrom (N := N) (a := b + 188) (p := b + 1) (by omega) hW.1.1 (by omega) hsh hC.2.1
  have q1 := (a3 (b + 187) (by omega)).trans ho
  have e1 : sI σ1 7 2 (b + 187) 0 = some (zup σ1 (b + 187) (.inr (7, [.ref (b + 188), .ref (b + 224), .int 0, .int a, .int re, .int ca]))) := by
    rw [sI_at q1 (Nat.le_of_ble_eq_true rfl)]
    rfl
  have e2 : sI (zup σ1 (b + 187) (.inr (7, [.ref (b + 188), .ref (b + 224), .int 0, .int a, .int re, .int ca]))) 7 3 (b + 187) 0 = some (zup σ1 (b + 187) (.inr (7, [.ref (b + 188), .ref (b + 224), .int 0, .int 0, .int re, .int ca]))) := by
    rw [sI_at (zup_same _ _ _) (Nat.le_of_ble_eq_true rfl), zup_zup]
    rfl
  have e3 : sI (zup σ1 (b + 187) (.inr (7, [.ref (b + 188), .ref (b + 224), .int 0, .int 0, .int re, .int ca]))) 7 4 (b + 187) 0 = some (zup σ1 (b + 187) (.inr (7, [.ref (b + 188), .ref (b + 224), .int 0, .int 0, .int 0, .int ca]))) := by
    rw [sI_at (zup_same _ _ _) (Nat.le_of_ble_eq_true rfl), zup_zup]
    rfl
  have e4 : sI (zup σ1 (b + 187) (.inr (7, [.ref (b + 188), .ref (b + 224), .int 0, .int 0, .int 0, .int ca]))) 7 5 (b + 187) 0 = some (zup σ1 (b + 187) (.inr (7, [.ref (b + 188), .ref (b + 224), .int 0, .int 0, .int 0, .int 0]))) := by
    rw [sI_at (zup_same _ _ _) (Nat.le_of_ble_eq_true rfl), zup_zup]
    rfl
  have q2 : zup σ1 (b + 187) (.inr (7, [.ref (b + 188), .ref (b + 224), .int 0, .int 0, .int 0, .int 0])) (b + 187) = _ := zup_same _ _ _
  have k2 : ∀ x, x ≠ b + 187 → zup σ1 (b + 187) (.inr (7, [.ref (b + 188), .ref (b + 224), .int 0, .int 0, .int 0, .int 0])) x = σ1 x := fun x hx => zup_ne _ _ hx
  generalize hσ2 : zup σ1 (b + 187) (.inr (7, [.ref (b + 188), .ref (b + 224), .int 0, .int 0, .int 0, .int 0])) = σ2 at e4 q2 k2
  obtain ⟨R, σ', i1, i2, i3, i4, i5⟩ := run_both (N := N) (M := M) hN hW.chs 80 0 s 0 0 N σ2 (by omega) (by omega) (Nat.le_refl 0) (Nat.le_refl 0) (by omega) hW.1 (hC.tx.keep (fun x _ _ => by rw [k2 x (by omega), a3 x (by omega)])) (hcd.keep (fun x _ _ => by rw [k2 x (by omega), a3 x (by omega)])) (a2.keep hW.1.1 (fun x _ _ => k2 x (by omega))) ⟨_, q2⟩
  refine ⟨R, σ', ?_, fun x hx => by rw [i2 x hx, k2 x (by omega), a3 x (by omega)], i3, i4, i5 N (by omega)⟩
  unfold m_X7_run
  rw [gA_at ho rfl, Option.bind_some, isO_at hu2.1, Option.bind_some, a1, Option.bind_some, e1, Option.bind_some, e2, Option.bind_some, e3, Option.bind_some, e4, Option.bind_some, show m_X7_run_L30 N N σ2 (b + 187) (b + 183) 0 = some σ' from i1, Option.bind_some]
def DV (R : RS) (s' : AS) (z re ca : Int32) : Prop := match R with
  | .inl (m, s2) => s' = s2 ∧ z = (-1) - nI m
  | .inr (q, k, y) => z = nI q ∧ re = rsn k ∧ (k = true → ca = y)
theorem does_all {N M n len : Nat} {σ : zS} {s : AS} {H : Nat → AS} {T : Nat → Int32} {R : RS} (h : MX σ M s s n H T len) (hr : RunM N M len T N 0 0 s R) : ∃ (z : Int32) (τ : zS) (s' : AS) (re ca : Int32), m_X9_does N σ M = some (z, τ) ∧ MX τ M s' s n H T len ∧ gI τ 9 13 M = some re ∧ gI τ 9 14 M = some ca ∧ (∀ x, x ≠ M → x ≠ M + 1 → τ x = σ x) ∧ DV R s' z re ca := by
  obtain ⟨first, at_, ok, re, ca, m0, m1, ⟨F, m2, m2'⟩, m3, m4, m5, m6, C, m7, m8⟩ := h
  have e1 : sI σ 9 11 M 0 = some (zup σ M (xE M (nI first) (nI n) len 0 ok re ca)) := by
    rw [sI_at m1 (Nat.le_of_ble_eq_true rfl)]
    rfl
  have hx : Xm (zup σ M (xE M (nI first) (nI n) len 0 ok re ca)) M (nI first) (nI n) len 0 ok re ca T := ⟨zup_same _ _ _, C, by rw [zup_ne _ _ (by omega)]; exact m7, m8⟩
  obtain ⟨p', ok', re', ca', F', s'', j1, j2⟩ := hr _ _ _ _ _ _ _ hx (by rw [zup_ne _ _ (by omega)]; exact m2) m2'
  rw [zup_zup] at j2
  have q1 : zup (zup σ M (xE M (nI first) (nI n) len p' ok' re' ca')) (M + 1) (.inl (1, 6165, .inl F')) M = some (xE M (nI first) (nI n) len p' ok' re' ca') := (zup_ne _ _ (by omega)).trans (zup_same _ _ _)
  have k1 : ∀ x, x ≠ M → x ≠ M + 1 → zup (zup σ M (xE M (nI first) (nI n) len p' ok' re' ca')) (M + 1) (.inl (1, 6165, .inl F')) x = σ x := fun x h1 h2 => by rw [zup_ne _ _ h2, zup_ne _ _ h1]
  have q2 : zup (zup σ M (xE M (nI first) (nI n) len p' ok' re' ca')) (M + 1) (.inl (1, 6165, .inl F')) (M + 1) = _ := zup_same _ _ _
  generalize zup (zup σ M (xE M (nI first) (nI n) len p' ok' re' ca')) (M + 1) (.inl (1, 6165, .inl F')) = τ at j2 q1 k1 q2
  have hm : MX τ M s'' s n H T len := by
    obtain ⟨G, m3, m3'⟩ := m3
    obtain ⟨X, m6⟩ := m6
    refine ⟨first, nI p', ok', re', ca', m0, q1, ⟨F', q2, j1⟩, ⟨G, by rw [k1 _ (by omega) (by omega)]; exact m3, m3'⟩, fun k hk => ?_, fun k hk => ?_, ⟨X, by rw [k1 _ (by omega) (by omega)]; exact m6⟩, C, by rw [k1 _ (by omega) (by omega)]; exact m7, m8⟩
    · obtain ⟨G0, e⟩ := m4 k hk
      exact ⟨G0, by rw [k1 _ (by omega) (by omega)]; exact e⟩
    · obtain ⟨G0, e, e'⟩ := m5 k hk
      exact ⟨G0, by rw [k1 _ (by omega) (by omega)]; exact e, e'⟩
  have run : ∀ r, m_X9_does_L7 N N (zup σ M (xE M (nI first) (nI n) len 0 ok re ca)) M (nI 0) = some r → m_X9_does N σ M = bs (some r) (fun r => some r) fun z34 => b2 (some z34) fun y31 σ32 => some (((-1) - y31), σ32) := fun r hr => by
    unfold m_X9_does
    rw [e1, Option.bind_some, show m_X9_does_L7 N N (zup σ M (xE M (nI first) (nI n) len 0 ok re ca)) M 0 = some r from hr]
  rcases R with ⟨m2, s2⟩ | ⟨q2, k2, y2⟩
  · obtain ⟨j3, j4⟩ := j2
    have := run _ j4
    rw [bs_inr, b2_some] at this
    exact ⟨_, τ, s'', re', ca', this, hm, gI_at q1 rfl, gI_at q1 rfl, k1, j3, rfl⟩
  · obtain ⟨j3, j4, j5⟩ := j2
    have := run _ j5
    rw [bs_inl] at this
    exact ⟨_, τ, s'', re', ca', this, hm, gI_at q1 rfl, gI_at q1 rfl, k1, rfl, j3, j4⟩
theorem MX.back {N M n len : Nat} {σ : zS} {s' s : AS} {H : Nat → AS} {T : Nat → Int32} (hN : 7000 < N) (hW : WS s) (h : MX σ M s' s n H T len) : ∃ G : Nat → Int32, m_X9_copy N σ (M + 2) (M + 1) = some (zup σ (M + 1) (.inl (1, 6165, .inl G))) ∧ MR (zup σ (M + 1) (.inl (1, 6165, .inl G))) M s n H T len := by
  obtain ⟨first, at_, ok, re, ca, m0, m1, ⟨F, m2, m2'⟩, ⟨G, m3, m3'⟩, m4, m5, ⟨X, m6⟩, C, m7, m8⟩ := h
  obtain ⟨F1, a1, a2⟩ := X9_copy (N := N) hN (show M + 2 ≠ M + 1 by omega) m3 m2
  refine ⟨F1, a1, first, at_, ok, re, ca, m0, by rw [zup_ne _ _ (by omega)]; exact m1, ⟨F1, zup_same _ _ _, m3'.cong hW.1 hW.2.2.1 a2⟩, ⟨G, by rw [zup_ne _ _ (by omega)]; exact m3⟩, fun k hk => ?_, fun k hk => ?_, ⟨X, by rw [zup_ne _ _ (by omega)]; exact m6⟩, C, by rw [zup_ne _ _ (by omega)]; exact m7, m8⟩
  · obtain ⟨G0, e⟩ := m4 k hk
    exact ⟨G0, by rw [zup_ne _ _ (by omega)]; exact e⟩
  · obtain ⟨G0, e, e'⟩ := m5 k hk
    exact ⟨G0, by rw [zup_ne _ _ (by omega)]; exact e, e'⟩
theorem neg_many : ∀ m : Nat, m < 300 → (-1 : Int32) - ((-1) - nI m) = nI m ∧ ((-1 : Int32) - nI m) < 0 := by decide +kernel
theorem op_fault {N : Nat} {σ : zS} {b M n len : Nat} {s : AS} {H : Nat → AS} {T : Nat → Int32} (hN : 7000 < N) (hb : b + 229 ≤ M) (hW : WH s n H T len) (hC : CR σ b s n H T len) (hR : MR σ M s n H T len) (v : Int32) : TwT N b M σ (fun σ => m_X8_fault N σ b v) (fun σ => m_X9_fault N σ M v) := by
  rcases wi_cases v 2 (by decide) with ⟨k, hk, rfl⟩ | hv
  · obtain ⟨R, σ1, r1, r2, r3, r4, r5⟩ := run_all (N := N) (M := M) hN hW hC
    have hC1 : CR σ1 b s n H T len := hC.trial hW r2 r4
    have hR1 : MR σ1 M s n H T len := hR.keep (fun x _ _ => r2 x (by omega))
    obtain ⟨σ2, a1, a2, a3⟩ := X9_aside (N := N) hN hW.1 hR1
    obtain ⟨z, σ3, s'', re, ca, d1, d2, d3, d4, d5, d6⟩ := does_all a2 r5
    obtain ⟨G, g1, g2⟩ := d2.back (N := N) hN hW.1
    have t1 : isO σ (7 : Nat) (b + 187) = some () := by
      obtain ⟨d, a, re, ca, ho⟩ := hC.2.2.2.2.2.1
      exact isO_at ho
    have hg : ∀ j, gI (zup σ3 (M + 1) (.inl (1, 6165, .inl G))) 9 j M = gI σ3 9 j M := fun j => by
      unfold gI
      rw [zup_ne _ _ (show M ≠ M + 1 by omega)]
    have d3' := (hg 13).trans d3
    have d4' := (hg 14).trans d4
    obtain ⟨c1, c2, dd, aa, rr, cc, ho1, ho2⟩ := r4
    have m1 := hR1.mb.o
    have m2 := a2.nw.1.o
    have m3 := d2.nw.1.o
    have hC' : CR (zup σ3 (M + 1) (.inl (1, 6165, .inl G))) b s n H T len := hC1.keep hW (fun x _ _ => by rw [zup_ne _ _ (by omega), d5 x (by omega) (by omega), a3 x (by omega)])
    have fin : ∀ y, m_X8_fault N σ b (nI k) = some (y, σ1) → m_X9_fault N σ1 M (nI k) = some (y, zup σ3 (M + 1) (.inl (1, 6165, .inl G))) → TwT N b M σ (fun σ => m_X8_fault N σ b (nI k)) (fun σ => m_X9_fault N σ M (nI k)) := fun y h1 h2 => ⟨y, σ1, _, s, n, H, T, len, h1, m1.1, h2, hW, hC', g2⟩
    have x8 : m_X8_fault N σ b (nI k) = (if rr = 0 then (some ((-4), σ1)) else (if nI k = 2 then (if rr = 1 then (some ((-4), σ1)) else (if nI k = 0 then some (aa, σ1) else (if nI k = 1 then some (rr, σ1) else some (cc, σ1)))) else (if nI k = 0 then some (aa, σ1) else (if nI k = 1 then some (rr, σ1) else some (cc, σ1))))) := by
      unfold m_X8_fault
      rw [show (2 : Int32) = nI 2 from rfl, X8_within_in (by decide) hk, Option.bind_some, if_neg (by decide), hC.o.2.2.2.2.2.1, Option.bind_some, hC.o.2.2.2.1, Option.bind_some, hC.o.2.1, Option.bind_some, t1, Option.bind_some, r1, Option.bind_some]
      simp only [hC1.o.2.2.2.2.2.1, Option.bind_some, gI_at ho1 (k := 3) rfl, gI_at ho1 (k := 4) rfl, gI_at ho1 (k := 5) rfl]
    have x9 : m_X9_fault N σ1 M (nI k) = (if z < 0 then (some ((-4), zup σ3 (M + 1) (.inl (1, 6165, .inl G)))) else (if nI k = 2 then (if re = 1 then (some ((-4), zup σ3 (M + 1) (.inl (1, 6165, .inl G)))) else (if nI k = 0 then some (z, zup σ3 (M + 1) (.inl (1, 6165, .inl G))) else (if nI k = 1 then some (re, zup σ3 (M + 1) (.inl (1, 6165, .inl G))) else some (ca, zup σ3 (M + 1) (.inl (1, 6165, .inl G)))))) else (if nI k = 0 then some (z, zup σ3 (M + 1) (.inl (1, 6165, .inl G))) else (if nI k = 1 then some (re, zup σ3 (M + 1) (.inl (1, 6165, .inl G))) else some (ca, zup σ3 (M + 1) (.inl (1, 6165, .inl G))))))) := by
      unfold m_X9_fault
      rw [show (2 : Int32) = nI 2 from rfl, X9_in_in (by decide) hk, Option.bind_some, if_neg (by decide), m1.2.1, Option.bind_some, m1.2.2.1, Option.bind_some, a1, Option.bind_some, m2.1, Option.bind_some, d1, b2_some, m3.2.2.1, Option.bind_some, m3.2.1, Option.bind_some, g1, Option.bind_some]
      simp only [d3', d4', Option.bind_some]
    rcases R with ⟨mm, s2⟩ | ⟨qq, kk, yy⟩
    · obtain ⟨-, -, h3⟩ := ho2
      obtain ⟨-, h4⟩ := d6
      refine fin (-4) ?_ ?_
      · rw [x8, if_pos h3]
      · rw [x9, h4, if_pos (neg_many mm r3.1).2]
    · obtain ⟨h1, h2, h3⟩ := ho2
      obtain ⟨h4, h5, h6⟩ := d6
      have hq : qq < 300 := r3
      have nz : ¬ rr = 0 := by
        rw [h2]
        cases kk <;> decide
      have nn : ¬ z < 0 := by
        rw [h4]
        exact nI_pos (by omega)
      rw [if_neg nz] at x8
      rw [if_neg nn] at x9
      have : k = 0 ∨ k = 1 ∨ k = 2 := by omega
      rcases this with rfl | rfl | rfl
      · refine fin (nI qq) ?_ ?_
        · rw [x8, if_neg (by decide), if_pos (by rfl), h1]
        · rw [x9, if_neg (by decide), if_pos (by rfl), h4]
      · refine fin (rsn kk) ?_ ?_
        · rw [x8, if_neg (by decide), if_neg (by decide), if_pos (by rfl), h2]
        · rw [x9, if_neg (by decide), if_neg (by decide), if_pos (by rfl), h5]
      · cases kk
        · refine fin (-4) ?_ ?_
          · rw [x8, if_pos (by rfl), if_pos (show rr = 1 from h2)]
          · rw [x9, if_pos (by rfl), if_pos (show re = 1 from h5)]
        · refine fin yy ?_ ?_
          · rw [x8, if_pos (by rfl), if_neg (by rw [h2]; decide), if_neg (by decide), if_neg (by decide), h3 rfl]
          · rw [x9, if_pos (by rfl), if_neg (by rw [h5]; decide), if_neg (by decide), if_neg (by decide), h6 rfl]
  · refine ⟨-1, σ, σ, s, n, H, T, len, ?_, hR.mb.o.1, ?_, hW, hC, hR⟩
    · dsimp only
      unfold m_X8_fault
      rw [show (2 : Int32) = nI 2 from rfl, X8_within_out hv, Option.bind_some, if_pos rfl]
    · dsimp only
      unfold m_X9_fault
      rw [show (2 : Int32) = nI 2 from rfl, X9_in_out hv, Option.bind_some, if_pos rfl]
theorem op_play {N : Nat} {σ : zS} {b M n len : Nat} {s : AS} {H : Nat → AS} {T : Nat → Int32} (hN : 7000 < N) (hb : b + 229 ≤ M) (hW : WH s n H T len) (hC : CR σ b s n H T len) (hR : MR σ M s n H T len) : TwT N b M σ (fun σ => m_X8_play N σ b) (fun σ => m_X9_play N σ M) := by
  obtain ⟨R, σ1, r1, r2, r3, r4, r5⟩ := run_all (N := N) (M := M) hN hW hC
  have hC1 : CR σ1 b s n H T len := hC.trial hW r2 r4
  have hR1 : MR σ1 M s n H T len := hR.keep (fun x _ _ => r2 x (by omega))
  have t1 : isO σ (7 : Nat) (b + 187) = some () := by
    obtain ⟨d, a, re, ca, ho⟩ := hC.2.2.2.2.2.1
    exact isO_at ho
  obtain ⟨c1, c2, dd, aa, rr, cc, ho1, ho2⟩ := r4
  have x8 : ∀ r, (if rr = 0 then ((isO σ1 1 (b + 37)).bind fun u20 => (m_X1_record N σ1 (b + 37) (b + 1)).bind fun σ23 => (gA σ23 8 0 b).bind fun a24 => (gA σ23 8 4 b).bind fun a26 => (gA σ23 7 0 a26).bind fun a28 => (isO σ23 4 a24).bind fun u30 => (m_X4_copyFrom N σ23 a24 a28).bind fun σ33 => (gA σ33 8 4 b).bind fun a34 => (gI σ33 7 2 a34).bind fun x36 => some (x36, σ33)) else (some ((-2), σ1))) = r → m_X8_play N σ b = r := fun r hr => by
    unfold m_X8_play
    rw [hC.o.2.2.2.2.2.1, Option.bind_some, hC.o.2.2.2.1, Option.bind_some, hC.o.2.1, Option.bind_some, t1, Option.bind_some, r1, Option.bind_some, hC1.o.2.2.2.2.2.1, Option.bind_some, gI_at ho1 rfl, Option.bind_some, hC1.o.2.2.1, Option.bind_some, hC1.o.2.1, Option.bind_some]
    exact hr
  have x9 : ∀ (σ : zS) (hR : MR σ M s n H T len), ∃ (z : Int32) (τ : zS) (s' : AS) (re ca : Int32), m_X9_play N σ M = ((if 0 ≤ z then (some (-2)) else (some ((-1) - z))).bind fun (y14 : Int32) => b2 (m_X9_ends N τ M y14) fun x19 σ18 => some (x19, σ18)) ∧ MX τ M s' s n H T len ∧ (∀ x, (x < M ∨ M + 9 ≤ x) → τ x = σ x) ∧ DV R s' z re ca := fun σ hR => by
    obtain ⟨σ2, a1, a2, a3⟩ := X9_aside (N := N) hN hW.1 hR
    obtain ⟨z, σ3, s'', re, ca, d1, d2, d3, d4, d5, d6⟩ := does_all a2 r5
    refine ⟨z, σ3, s'', re, ca, ?_, d2, fun x hx => by rw [d5 x (by omega) (by omega), a3 x hx], d6⟩
    unfold m_X9_play
    rw [hR.mb.o.2.1, Option.bind_some, hR.mb.o.2.2.1, Option.bind_some, a1, Option.bind_some, a2.nw.1.o.1, Option.bind_some, d1, b2_some, d2.nw.1.o.1]
    rfl
  rcases R with ⟨mm, s2⟩ | ⟨qq, kk, yy⟩
  · obtain ⟨h1, h2, h3⟩ := ho2
    obtain ⟨hm, hs2⟩ := r3
    obtain ⟨σ4, b1, b2', b3'⟩ := X1_record (N := N) (by omega) hW.2.1 hC1.2.2.1 hW.2.2.1 hC1.2.1 hW.1
    have st4 : St σ4 (b + 1) s := hC1.2.1.keep hW.1.1 (fun x _ _ => b3' x (by omega))
    have st4' : St σ4 (b + 188) s2 := h1.keep hs2.1 (fun x _ _ => b3' x (by omega))
    have ho4 := (b3' (b + 187) (by omega)).trans ho1
    obtain ⟨σ5, e1, e2, e3⟩ := X4_copyFrom (N := N) (a := b + 1) (p := b + 188) (by omega) hs2.1 (by omega) (st4.sh hW.1.1) st4'
    have ho5 := (e3 (b + 187) (by omega)).trans ho4
    have hW' := hW.rec hs2
    have hC5 : CR σ5 b s2 (min (n + 1) 4) (recH n H s) T len := hC1.upd (fun x hx => by rw [e3 x (by omega), b3' x (by omega)]) e2 (b2'.keep hW'.2.2.1 hW'.2.1 (fun x _ _ => e3 x (by omega)))
    have hR5 : MR σ5 M s n H T len := hR1.keep (fun x _ _ => by rw [e3 x (by omega), b3' x (by omega)])
    obtain ⟨z, τ, s', re, ca, f1, f2, f3, f4, f5⟩ := x9 σ5 hR5
    subst f4
    have nm := neg_many mm hm
    obtain ⟨σ', g1, g2, g3⟩ := X9_ends_ok (N := N) hN hW.2.1 hW.1 hs2 (y := nI mm) (nI_pos' (by omega)) f2
    refine ⟨nI mm, σ5, σ', s', _, _, T, len, x8 _ ?_, hR5.mb.o.1, ?_, hW', hC5.keep hW' (fun x _ _ => by rw [g3 x (by omega), f3 x (by omega)]), g2⟩
    · have i1 : isO σ1 1 (b + 37) = some () := isO_at hC1.2.2.1.1
      have oc : gA σ4 8 0 b = some (b + 1) ∧ gA σ4 8 4 b = some (b + 187) := by
        have := (b3' b (by omega)).trans hC1.1
        exact ⟨gA_at this rfl, gA_at this rfl⟩
      rw [if_pos h3, i1, Option.bind_some, b1, Option.bind_some, oc.1, Option.bind_some, oc.2, Option.bind_some, gA_at ho4 rfl, Option.bind_some, st4.o.1, Option.bind_some, e1, Option.bind_some, hC5.o.2.2.2.2.2.1, Option.bind_some, gI_at ho5 rfl, Option.bind_some, h2]
    · dsimp only
      rw [f1, f5, if_neg (Int32.not_le.mpr nm.2), Option.bind_some, nm.1, g1, b2_some]
  · obtain ⟨h1, h2, h3⟩ := ho2
    have hq : qq < 300 := r3
    obtain ⟨z, τ, s', re, ca, f1, f2, f3, f4⟩ := x9 σ1 hR1
    obtain ⟨σ', g1, g2, g3⟩ := X9_ends_no (N := N) hN hW.1 (y := -2) (by decide) f2
    refine ⟨-2, σ1, σ', s, n, H, T, len, x8 _ ?_, hR1.mb.o.1, ?_, hW, hC1.keep hW (fun x _ _ => by rw [g3 x (by omega), f3 x (by omega)]), g2⟩
    · rw [if_neg]
      rw [h2]
      cases kk <;> decide
    · dsimp only
      rw [f1, f4.1, if_pos (nI_pos' (by omega)), Option.bind_some, g1, b2_some]
