/-! Pure, 9: what stays, frames, copies; has, raises, would -/
theorem Sk.keep {σ σ' : zS} {q : Nat} {r : Nat → Int32} (h : Sk σ q r) (hk : ∀ x, q ≤ x → x < q + 3 → σ' x = σ x) : Sk σ' q r := by
  obtain ⟨hs, rg, h1, h2, h3, h4, h5⟩ := h
  exact ⟨hs, rg, by rw [hk _ (by omega) (by omega)]; exact h1, by rw [hk _ (by omega) (by omega)]; exact h2, by rw [hk _ (by omega) (by omega)]; exact h3, h4, h5⟩
theorem Tb.keep {σ σ' : zS} {q : Nat} {r g : Nat → Int32} (h : Tb σ q r g) (hk : ∀ x, q ≤ x → x < q + 5 → σ' x = σ x) : Tb σ' q r g := by
  obtain ⟨h1, h2, f, h3, h4⟩ := h
  exact ⟨by rw [hk _ (by omega) (by omega)]; exact h1, h2.keep (fun x a b => hk x (by omega) (by omega)), f, by rw [hk _ (by omega) (by omega)]; exact h3, h4⟩
theorem Lo.keep {σ σ' : zS} {q l : Nat} {K : Nat → Nat → Int32} (h : Lo σ q l K) (hk : ∀ x, q ≤ x → x < q + 4 → σ' x = σ x) : Lo σ' q l K := by
  obtain ⟨h1, f0, f1, f2, h2, h3, h4, h5⟩ := h
  exact ⟨by rw [hk _ (by omega) (by omega)]; exact h1, f0, f1, f2, by rw [hk _ (by omega) (by omega)]; exact h2, by rw [hk _ (by omega) (by omega)]; exact h3, by rw [hk _ (by omega) (by omega)]; exact h4, h5⟩
theorem St.keep {σ σ' : zS} {a : Nat} {s : AS} (hM : sM s ≤ 6) (h : St σ a s) (hk : ∀ x, a ≤ x → x < a + 36 → σ' x = σ x) : St σ' a s := by
  obtain ⟨h1, ⟨f, h2, h3⟩, h4, h5, h6⟩ := h
  exact ⟨by rw [hk _ (by omega) (by omega)]; exact h1, ⟨f, by rw [hk _ (by omega) (by omega)]; exact h2, h3⟩, h4.keep (fun x _ _ => hk x (by omega) (by omega)), fun i hi => by
    obtain ⟨r, g, ht⟩ := h5 i hi
    exact ⟨r, g, ht.keep (fun x _ _ => hk x (by omega) (by omega))⟩, fun i hi => (h6 i hi).keep (fun x _ _ => hk x (by omega) (by omega))⟩
theorem Sh.keep {σ σ' : zS} {a : Nat} (h : Sh σ a) (hk : ∀ x, a ≤ x → x < a + 36 → σ' x = σ x) : Sh σ' a := by
  obtain ⟨u, h1, h2⟩ := h
  exact ⟨u, h1, h2.keep h1 hk⟩
theorem Cd.keep {σ σ' : zS} {q : Nat} (h : Cd σ q) (hk : ∀ x, q ≤ x → x < q + 2 → σ' x = σ x) : Cd σ' q := by
  obtain ⟨c, e, f, h1, h2⟩ := h
  exact ⟨c, e, f, by rw [hk _ (by omega) (by omega)]; exact h1, by rw [hk _ (by omega) (by omega)]; exact h2⟩
-- copies of ints
theorem cpI_at {σ : zS} {q0 q1 n0 n1 n : Nat} {f g : Nat → Int32} {x : Int32} (h0 : σ q0 = some (.inl (1, n0, .inl f))) (h1 : σ q1 = some (.inl (1, n1, .inl g))) (hx : x = nI n) (hn0 : n ≤ n0) (hn1 : n ≤ n1) (hn : n < 2 ^ 31) : cpI σ q0 0 q1 0 x = some (zup σ q1 (.inl (1, n1, .inl (va_cpy f g 0 0 n)))) := by
  subst hx
  unfold cpI
  rw [h0, h1]
  dsimp only
  have z : ((0 : Int32).toNatClampNeg) = 0 := rfl
  rw [if_pos ⟨rfl, rfl, by decide, by decide, nI_pos hn, by rw [nI_clamp hn, z]; omega, by rw [nI_clamp hn, z]; omega⟩, nI_clamp hn, z]
theorem cpy_in {f g : Nat → Int32} {n j : Nat} (h : j < n) : va_cpy f g 0 0 n j = f j := by
  rw [pk_cpy_in (Nat.zero_le _) (by omega)]
  congr 1
  omega
theorem X3_copyFrom {N : Nat} {σ : zS} {q p : Nat} {r0 r : Nat → Int32} (hq : Sk σ q r0) (hp : Sk σ p r) (hs : p + 3 ≤ q ∨ q + 3 ≤ p) : ∃ σ', m_X3_copyFrom N σ q p = some σ' ∧ SU σ q r σ' := by
  obtain ⟨hs0, rg0, a1, a2, a3, -, -⟩ := hq
  obtain ⟨hs1, rg1, b1, b2, b3, b4, b5⟩ := hp
  have zp : ∀ e, zup σ q e p = some (.inr (3, [.int (r 0), .int (r 1), .int (r 2), .int (r 4), .int (r 5), .ref (p + 1), .ref (p + 2)])) := fun e => by rw [zup_ne _ _ (by omega)]; exact b1
  unfold m_X3_copyFrom
  rw [gI_at b1 rfl, Option.bind_some, sI_at a1 (Nat.le_of_ble_eq_true rfl), Option.bind_some,
    gI_at (zp _) rfl, Option.bind_some, sI_at (zup_same _ _ _) (Nat.le_of_ble_eq_true rfl), Option.bind_some, zup_zup,
    gI_at (zp _) rfl, Option.bind_some, sI_at (zup_same _ _ _) (Nat.le_of_ble_eq_true rfl), Option.bind_some, zup_zup,
    gI_at (zp _) rfl, Option.bind_some, sI_at (zup_same _ _ _) (Nat.le_of_ble_eq_true rfl), Option.bind_some, zup_zup,
    gI_at (zp _) rfl, Option.bind_some, sI_at (zup_same _ _ _) (Nat.le_of_ble_eq_true rfl), Option.bind_some, zup_zup,
    gA_at (zp _) rfl, Option.bind_some, gA_at (zup_same _ _ _) rfl, Option.bind_some,
    cpI_at (n := 8) (x := 8) (show zup σ q _ (p + 1) = some _ by rw [zup_ne _ _ (by omega)]; exact b2) (show zup σ q _ (q + 1) = some _ by rw [zup_ne _ _ (by omega)]; exact a2) rfl (by decide) (by decide) (by decide), Option.bind_some,
    gA_at (show zup (zup σ q _) (q + 1) _ p = some _ by rw [zup_ne _ _ (by omega), zup_ne _ _ (by omega)]; exact b1) rfl, Option.bind_some, gA_at (show zup (zup σ q _) (q + 1) _ q = some _ by rw [zup_ne _ _ (by omega), zup_same]) rfl, Option.bind_some,
    cpI_at (n := 8) (x := 8) (show zup (zup σ q _) (q + 1) _ (p + 2) = some _ by rw [zup_ne _ _ (by omega), zup_ne _ _ (by omega)]; exact b3) (show zup (zup σ q _) (q + 1) _ (q + 2) = some _ by rw [zup_ne _ _ (by omega), zup_ne _ _ (by omega)]; exact a3) rfl (by decide) (by decide) (by decide), Option.bind_some]
  refine ⟨_, rfl, ⟨_, _, by rw [zup_ne _ _ (by omega), zup_ne _ _ (by omega), zup_same]; rfl, by rw [zup_ne _ _ (by omega), zup_same], by rw [zup_same], fun j hj hlt => ?_, fun j hj => ?_⟩, fun x hx => ?_⟩
  · rw [cpy_in hj]
    exact b4 j hj hlt
  · rw [cpy_in hj]
    exact b5 j hj
  · rw [zup_ne _ _ (by omega), zup_ne _ _ (by omega), zup_ne _ _ (by omega)]
-- frames of the whole
theorem MB.keep {σ σ' : zS} {M : Nat} (h : MB σ M) (hk : σ' M = σ M) : MB σ' M := by
  obtain ⟨a, b, c, d, e, f, g, h⟩ := h
  exact ⟨a, b, c, d, e, f, g, by rw [hk]; exact h⟩
theorem Nw.keep {σ σ' : zS} {M : Nat} {s : AS} (h : Nw σ M s) (hk : σ' M = σ M) (hk1 : σ' (M + 1) = σ (M + 1)) : Nw σ' M s := by
  obtain ⟨h1, F, h2, h3⟩ := h
  exact ⟨h1.keep hk, F, by rw [hk1]; exact h2, h3⟩
theorem MR.mix {σ : zS} {M n len : Nat} {s : AS} {H : Nat → AS} {T X : Nat → Int32} (h : MR σ M s n H T len) : MR (zup σ (M + 7) (.inl (1, 23, .inl X))) M s n H T len := by
  obtain ⟨first, at_, ok, re, ca, m0, m1, ⟨F, m2, m2'⟩, ⟨F2, m3⟩, m4, m5, ⟨X0, m6⟩, C, m7, m8⟩ := h
  refine ⟨first, at_, ok, re, ca, m0, by rw [zup_ne _ _ (by omega)]; exact m1, ⟨F, by rw [zup_ne _ _ (by omega)]; exact m2, m2'⟩, ⟨F2, by rw [zup_ne _ _ (by omega)]; exact m3⟩, fun k hk => ?_, fun k hk => ?_, ⟨X, zup_same _ _ _⟩, C, by rw [zup_ne _ _ (by omega)]; exact m7, m8⟩
  · obtain ⟨F, e⟩ := m4 k hk
    exact ⟨F, by rw [zup_ne _ _ (by omega)]; exact e⟩
  · obtain ⟨F, e, e'⟩ := m5 k hk
    exact ⟨F, by rw [zup_ne _ _ (by omega)]; exact e, e'⟩
theorem MR.keep {σ σ' : zS} {M n len : Nat} {s : AS} {H : Nat → AS} {T : Nat → Int32} (h : MR σ M s n H T len) (hk : ∀ x, M ≤ x → x < M + 9 → σ' x = σ x) : MR σ' M s n H T len := by
  obtain ⟨first, at_, ok, re, ca, m0, m1, ⟨F, m2, m2'⟩, ⟨F2, m3⟩, m4, m5, ⟨X0, m6⟩, C, m7, m8⟩ := h
  refine ⟨first, at_, ok, re, ca, m0, by rw [hk _ (by omega) (by omega)]; exact m1, ⟨F, by rw [hk _ (by omega) (by omega)]; exact m2, m2'⟩, ⟨F2, by rw [hk _ (by omega) (by omega)]; exact m3⟩, fun k h4 => ?_, fun k h4 => ?_, ⟨X0, by rw [hk _ (by omega) (by omega)]; exact m6⟩, C, by rw [hk _ (by omega) (by omega)]; exact m7, m8⟩
  · obtain ⟨F, e⟩ := m4 k h4
    exact ⟨F, by rw [hk _ (by omega) (by omega)]; exact e⟩
  · obtain ⟨F, e, e'⟩ := m5 k h4
    exact ⟨F, by rw [hk _ (by omega) (by omega)]; exact e, e'⟩
-- what a thing would change
def yN (y : Int32) (P : Prop) : Prop := (y = 0 ∧ ¬ P) ∨ (y = 1 ∧ P)
theorem yN.uniq {y y' : Int32} {P : Prop} (h : yN y P) (h' : yN y' P) : y = y' := by
  rcases h with ⟨a, b⟩ | ⟨a, b⟩ <;> rcases h' with ⟨a', b'⟩ | ⟨a', b'⟩
  · rw [a, a']
  · exact absurd b' b
  · exact absurd b b'
  · rw [a, a']
def kept (r : Nat → Int32) (h : Nat) : Prop := ∀ j, 4 ≤ j → j < 22 → ksR r h j = r j
def sdN (r : Nat → Int32) : Nat := (r 1).toNatClampNeg
theorem rW.sd {r : Nat → Int32} (h : rW r) : sdN r ≤ 9 ∧ r 1 = nI (sdN r) := by
  obtain ⟨k, hk, e⟩ := h.2.1
  unfold sdN
  rw [e, nI_clamp (by omega)]
  exact ⟨hk, rfl⟩
theorem bt_bitI {h : Nat} (hh : h < 65536) {i : Nat} (hi : i < 32) : bt (bitI h) i = decide (h / 2048 = i) := by
  have h1 : ∀ i, i < 32 → bt 1 i = decide (i = 0) := by decide +kernel
  unfold bitI
  rw [b_shl (h / 2048) (by omega) 1 hi, h1 _ (by omega)]
  by_cases c : h / 2048 = i
  · rw [decide_eq_true c, decide_eq_true (by omega), decide_eq_true (by omega)]
    rfl
  · by_cases c2 : h / 2048 ≤ i
    · rw [decide_eq_false c, decide_eq_true c2, decide_eq_false (by omega)]
      rfl
    · rw [decide_eq_false c, decide_eq_false c2]
      rfl
theorem kept_0 {r : Nat → Int32} {h : Nat} (hh : h < 65536) (h0 : r 0 = 0) : kept r h ↔ ¬ (r 4 &&& bitI h) = 0 := by
  have e : ∀ j, ksR r h j = if j = 4 then r 4 ||| bitI h else r j := fun j => by unfold ksR; rw [if_pos h0]
  have hk : h / 2048 < 32 := by omega
  constructor
  · intro q z
    have q4 := q 4 (by omega) (by omega)
    rw [e, if_pos rfl] at q4
    have a1 : bt (r 4 ||| bitI h) (h / 2048) = true := by
      rw [b_or, bt_bitI hh hk, decide_eq_true rfl]
      exact Bool.or_true _
    rw [q4] at a1
    have a2 : bt (r 4 &&& bitI h) (h / 2048) = true := by
      rw [b_and, bt_bitI hh hk, decide_eq_true rfl, a1]
      rfl
    rw [z, b_0] at a2
    cases a2
  · intro q j h4 h22
    rw [e]
    by_cases c : j = 4
    · rw [if_pos c, c]
      by_cases b : bt (r 4) (h / 2048) = true
      · refine b_ext (fun i hi => ?_)
        rw [b_or, bt_bitI hh hi]
        by_cases ci : h / 2048 = i
        · rw [← ci, b]
          rfl
        · rw [decide_eq_false ci]
          exact Bool.or_false _
      · refine absurd (b_ext (fun i hi => ?_)) q
        rw [b_and, bt_bitI hh hi, b_0]
        by_cases ci : h / 2048 = i
        · rw [← ci, Bool.eq_false_iff.mpr b]
          rfl
        · rw [decide_eq_false ci]
          exact Bool.and_false _
    · rw [if_neg c]
theorem kept_1 {r : Nat → Int32} {h : Nat} (hr : rW r) (h0 : ¬ r 0 = 0) (h1 : r 0 = 1) : kept r h ↔ (plN r (nI h) = 8 ∨ (plN r (nI h) < ktN r ∧ r (6 + plN r (nI h)) = nI h)) := by
  have hk := hr.kt
  have hp := plN_le r (nI h)
  have e : ksR r h = khR r (nI h) := by unfold ksR; rw [if_neg h0, if_pos h1]
  unfold kept
  rw [e]
  by_cases c : plN r (nI h) = 8 ∨ (plN r (nI h) < ktN r ∧ r (6 + plN r (nI h)) = nI h)
  · refine ⟨fun _ => c, fun _ j _ _ => ?_⟩
    unfold khR
    rw [if_pos c]
  · refine ⟨fun q => ?_, fun q => absurd q c⟩
    exfalso
    by_cases c8 : ktN r = 8
    · have q6 := q (6 + plN r (nI h)) (by omega) (by omega)
      unfold khR at q6
      rw [if_neg c, if_neg (by omega), if_pos rfl] at q6
      exact c (by
        by_cases c9 : plN r (nI h) = 8
        · exact Or.inl c9
        · exact Or.inr ⟨by omega, q6.symm⟩)
    · have q5 := q 5 (by omega) (by omega)
      unfold khR at q5
      rw [if_neg c, if_pos rfl, hk.2, nI_eq (by omega) (by omega)] at q5
      omega
theorem kept_2 {r : Nat → Int32} {h : Nat} (h0 : ¬ r 0 = 0) (h1 : ¬ r 0 = 1) : kept r h ↔ nI (rkS 13 1 (h / 8)) ≤ r (14 + h % 8) := by
  have e : ksR r h = rgR r (h % 8) (nI (rkS 13 1 (h / 8))) := by unfold ksR; rw [if_neg h0, if_neg h1]
  unfold kept
  rw [e]
  constructor
  · intro q
    have := q (14 + h % 8) (by omega) (by omega)
    unfold rgR at this
    rw [if_pos rfl] at this
    by_cases c : nI (rkS 13 1 (h / 8)) ≤ r (14 + h % 8)
    · exact c
    · rw [if_neg c] at this
      rw [this]
      exact Int32.le_refl _
  · intro q j _ _
    unfold rgR
    by_cases c : j = 14 + h % 8
    · rw [if_pos c, if_pos q, c]
    · rw [if_neg c]
theorem X3_staysWith {N : Nat} {σ : zS} {q t : Nat} {r : Nat → Int32} (hN : 50 < N) (hR : Sk σ q r) (hr : rW r) (ht : t < 1000) : ∃ y, m_X3_staysWith N σ q (nI t) = some y ∧ yN y (kept r (hsh t (sdN r))) := by
  have hsd := hr.sd
  have hk := hr.kt
  have hh := hsh_lt t (sdN r)
  obtain ⟨f0, f1, f2, f3, f4, f5, f6, f7⟩ := hR.fld
  have hpl := X3_placeOf (h := nI (hsh t (sdN r))) hN hR hr
  have hp := plN_le r (nI (hsh t (sdN r)))
  unfold m_X3_staysWith
  rw [f1, Option.bind_some, hsd.2, X8_hashOf ht hsd.1, Option.bind_some, f0, Option.bind_some]
  by_cases h0 : r 0 = 0
  · rw [if_pos h0, f3, Option.bind_some, f5, Option.bind_some]
    unfold m_X3_bitOf
    rw [Option.bind_some, bit_eq hh]
    by_cases c : (r 4 &&& bitI (hsh t (sdN r))) = 0
    · exact ⟨0, by rw [if_pos c], Or.inl ⟨rfl, fun q => (kept_0 hh h0).mp q c⟩⟩
    · exact ⟨1, by rw [if_neg c], Or.inr ⟨rfl, (kept_0 hh h0).mpr c⟩⟩
  · rw [if_neg h0, Option.bind_some]
    by_cases h1 : r 0 = 1
    · rw [if_pos h1, f5, Option.bind_some, hpl, Option.bind_some]
      by_cases c8 : plN r (nI (hsh t (sdN r))) = 8
      · exact ⟨1, by rw [if_pos (by rw [c8]; decide)], Or.inr ⟨rfl, (kept_1 hr h0 h1).mpr (Or.inl c8)⟩⟩
      · rw [if_neg (litge 8 (by omega) (by decide)), f4, Option.bind_some]
        by_cases ck : ktN r ≤ plN r (nI (hsh t (sdN r)))
        · exact ⟨0, by rw [if_pos (by rw [hk.2]; exact nI_le ck (by omega))], Or.inl ⟨rfl, fun q => ((kept_1 hr h0 h1).mp q).elim c8 (fun z => by omega)⟩⟩
        · obtain ⟨hs, rg, g1, g2, g3, g4, g5⟩ := hR
          rw [if_neg (by rw [hk.2]; exact nI_ge (by omega) (by omega)), f6, Option.bind_some, aI_at g2 rfl (by omega) (by decide), Option.bind_some, g4 _ (by omega) (by rw [hk.2]; exact nI_lt (by omega) (by omega))]
          by_cases ce : r (6 + plN r (nI (hsh t (sdN r)))) = nI (hsh t (sdN r))
          · exact ⟨1, by rw [if_pos ce], Or.inr ⟨rfl, (kept_1 hr h0 h1).mpr (Or.inr ⟨by omega, ce⟩)⟩⟩
          · exact ⟨0, by rw [if_neg ce], Or.inl ⟨rfl, fun q => ((kept_1 hr h0 h1).mp q).elim c8 (fun z => ce z.2)⟩⟩
    · obtain ⟨hs, rg, g1, g2, g3, g4, g5⟩ := hR
      rw [if_neg h1, f7, Option.bind_some, f5, Option.bind_some]
      unfold m_X3_registerOf
      rw [Option.bind_some, and7, aI_at g3 rfl (by omega) (by decide), Option.bind_some, show (8 : Int32) = nI 8 from rfl, pk_div (by omega) (by decide) (by decide), X8_rankOf hN (by omega), Option.bind_some, g5 _ (by omega)]
      by_cases c : r (14 + hsh t (sdN r) % 8) < nI (rkS 13 1 (hsh t (sdN r) / 8))
      · exact ⟨0, by rw [if_pos c], Or.inl ⟨rfl, fun q => absurd ((kept_2 h0 h1).mp q) (Int32.not_le.mpr c)⟩⟩
      · exact ⟨1, by rw [if_neg c], Or.inr ⟨rfl, (kept_2 h0 h1).mpr (Int32.not_lt.mp c)⟩⟩
theorem X9_laysMix {N : Nat} {M i : Nat} {s : AS} (hN : 50 < N) (hM : sM s ≤ 6) (hi : i < sM s) : ∀ d j n (σ : zS) (X : Nat → Int32), Nw σ M s → σ (M + 7) = some (.inl (1, 23, .inl X)) → j + d = 23 → d < n → (∀ k, k < j → X k = sR s i k) → ∃ X', m_X9_laysMix_L2 N n σ M (nI i) (nI j) = some (zup σ (M + 7) (.inl (1, 23, .inl X'))) ∧ ∀ k, k < 23 → X' k = sR s i k := by
  intro d
  induction d with
  | zero =>
    intro j n σ X h hX hj hn hk
    obtain ⟨n, rfl⟩ : ∃ m, n = m + 1 := ⟨n - 1, by omega⟩
    rw [m_X9_laysMix_L2, if_pos (by rw [show j = 23 by omega]; decide)]
    exact ⟨X, by rw [zup_id hX], fun k h => hk k (by omega)⟩
  | succ d ih =>
    intro j n σ X h hX hj hn hk
    obtain ⟨n, rfl⟩ : ∃ m, n = m + 1 := ⟨n - 1, by omega⟩
    rw [m_X9_laysMix_L2, if_neg (litge 23 (by omega) (by decide))]
    simp only [h.1.o.2.1, h.1.o.2.2.2.1, Option.bind_some, (h.row hM hi).rd (j := j) (x := 23 * nI i + nI j) (by omega) (by simp only [nlit, pk_mul, nI_add]), uI_at hX (k := j) rfl (by omega) (by decide), nI_1]
    obtain ⟨X', e1, e2⟩ := ih (j + 1) n (zup σ (M + 7) (.inl (1, 23, .inl (upd X j (sR s i j))))) _ (h.keep (zup_ne _ _ (by omega)) (zup_ne _ _ (by omega))) (zup_same _ _ _) (by omega) (by omega) (fun k hkj => by
      by_cases c : k = j
      · rw [c, upd_same]
      · rw [upd_ne _ _ c]
        exact hk k (by omega))
    rw [zup_zup] at e1
    exact ⟨X', e1, e2⟩
theorem X9_laysMix' {N : Nat} {σ : zS} {M i : Nat} {s : AS} {X : Nat → Int32} (hN : 50 < N) (h : Nw σ M s) (hM : sM s ≤ 6) (hi : i < sM s) (hX : σ (M + 7) = some (.inl (1, 23, .inl X))) : ∃ X', m_X9_laysMix N σ M (nI i) = some (zup σ (M + 7) (.inl (1, 23, .inl X'))) ∧ ∀ k, k < 23 → X' k = sR s i k := by
  unfold m_X9_laysMix
  obtain ⟨X', e1, e2⟩ := X9_laysMix (N := N) hN hM hi 23 0 N σ X h hX rfl (by omega) (fun k hk => by omega)
  rw [show (0 : Int32) = nI 0 from rfl, e1, Option.bind_some]
  exact ⟨X', rfl, e2⟩
theorem X9_keptL {N : Nat} {σ : zS} {M i : Nat} {s : AS} {r' : Nat → Int32} (h : Nw σ M s) (hM : sM s ≤ 6) (hi : i < sM s) (hX : Rw σ (M + 7) 0 r') : ∀ d j n (v : Int32) (P : Prop), yN v P → j + d = 22 → d < n → ∃ y, m_X9_couldHave_L28 N n σ M (nI i) v (nI j) = some y ∧ yN y (P ∧ ∀ k, j ≤ k → k < 22 → r' k = sR s i k) := by
  intro d
  induction d with
  | zero =>
    intro j n v P hv hj hn
    obtain ⟨n, rfl⟩ : ∃ m, n = m + 1 := ⟨n - 1, by omega⟩
    rw [m_X9_couldHave_L28, if_pos (by rw [show j = 22 by omega]; decide)]
    refine ⟨v, rfl, ?_⟩
    rcases hv with ⟨a, b⟩ | ⟨a, b⟩
    · exact Or.inl ⟨a, fun q => b q.1⟩
    · exact Or.inr ⟨a, b, fun k h1 h2 => by omega⟩
  | succ d ih =>
    intro j n v P hv hj hn
    obtain ⟨n, rfl⟩ : ∃ m, n = m + 1 := ⟨n - 1, by omega⟩
    rw [m_X9_couldHave_L28, if_neg (litge 22 (by omega) (by decide))]
    simp only [h.1.o.2.1, h.1.o.2.2.2.1, Option.bind_some, (h.row hM hi).rd (j := j) (x := 23 * nI i + nI j) (by omega) (by simp only [nlit, pk_mul, nI_add]), hX.rd (j := j) (x := nI j) (by omega) (by rw [Nat.zero_add])]
    rcases hv with ⟨a, b⟩ | ⟨a, b⟩
    · rw [if_pos a, Option.bind_some, nI_1]
      obtain ⟨y, e1, e2⟩ := ih (j + 1) n 0 P (Or.inl ⟨rfl, b⟩) (by omega) (by omega)
      refine ⟨y, e1, ?_⟩
      rcases e2 with ⟨a2, b2⟩ | ⟨a2, b2⟩
      · exact Or.inl ⟨a2, fun q => b q.1⟩
      · exact absurd b2.1 b
    · rw [if_neg (by rw [a]; decide)]
      by_cases c : r' j = sR s i j
      · rw [if_pos c, Option.bind_some, nI_1]
        obtain ⟨y, e1, e2⟩ := ih (j + 1) n 1 P (Or.inr ⟨rfl, b⟩) (by omega) (by omega)
        refine ⟨y, e1, ?_⟩
        rcases e2 with ⟨a2, b2⟩ | ⟨a2, b2⟩
        · exact Or.inl ⟨a2, fun q => b2 ⟨q.1, fun k h1 h2 => q.2 k (by omega) h2⟩⟩
        · exact Or.inr ⟨a2, b2.1, fun k h1 h2 => by
            by_cases ck : k = j
            · rw [ck]
              exact c
            · exact b2.2 k (by omega) h2⟩
      · rw [if_neg c, Option.bind_some, nI_1]
        obtain ⟨y, e1, e2⟩ := ih (j + 1) n 0 False (Or.inl ⟨rfl, id⟩) (by omega) (by omega)
        refine ⟨y, e1, ?_⟩
        rcases e2 with ⟨a2, b2⟩ | ⟨a2, b2⟩
        · exact Or.inl ⟨a2, fun q => c (q.2 j (Nat.le_refl _) (by omega))⟩
        · exact absurd b2.1 id
theorem X9_couldHave {N : Nat} {σ : zS} {M i t : Nat} {s : AS} {X : Nat → Int32} (hN : 50 < N) (h : Nw σ M s) (hW : WS s) (hi : i < sM s) (ht : t < 1000) (hX : σ (M + 7) = some (.inl (1, 23, .inl X))) : ∃ y X', m_X9_couldHave N σ M (nI i) (nI t) = some (y, zup σ (M + 7) (.inl (1, 23, .inl X'))) ∧ yN y (kept (sR s i) (hsh t (sdN (sR s i)))) := by
  have hM := hW.1
  have hr := (hW.2.2.2 i hi).1.1
  have hsd := hr.sd
  have hh := hsh_lt t (sdN (sR s i))
  obtain ⟨X1, e1, e2⟩ := X9_laysMix' (N := N) hN h hM hi hX
  have h4 : Nw (zup σ (M + 7) (.inl (1, 23, .inl X1))) M s := h.keep (zup_ne _ _ (by omega)) (zup_ne _ _ (by omega))
  have hA := zup_same σ (M + 7) (.inl (1, 23, .inl X1))
  obtain ⟨σ2, k1, k2⟩ := X9_keeps (N := N) (h := hsh t (sdN (sR s i))) (o := 0) hN hA (by decide) (by decide) (fun j hj => by rw [Nat.zero_add]; exact e2 j hj) hr hh
  obtain ⟨X2, c1, c2, c3, c4⟩ := k2.at
  have eσ : σ2 = zup σ (M + 7) (.inl (1, 23, .inl X2)) := by
    obtain ⟨X3, f1, f2, f3⟩ := k2
    rw [zup_zup] at f1
    subst f1
    rw [zup_same] at c1
    cases c1
    rfl
  have h5 : Nw σ2 M s := h4.keep (c4 _ (by omega)) (c4 _ (by omega))
  obtain ⟨y, y1, y2⟩ := X9_keptL (N := N) h5 hM hi ⟨23, X2, c1, by decide, by decide, c2⟩ 18 4 N 1 True (Or.inr ⟨rfl, trivial⟩) rfl (by omega)
  unfold m_X9_couldHave
  rw [h.1.o.1, Option.bind_some, e1, Option.bind_some, h4.1.o.2.2.2.1, Option.bind_some, Option.bind_some, aI_at hA (show (1 : Int32) = nI 1 from rfl) (by decide) (by decide), Option.bind_some, e2 1 (by decide), hsd.2, X9_hashOf ht hsd.1, Option.bind_some, show (0 : Int32) = nI 0 from rfl, k1, Option.bind_some, show m_X9_couldHave_L28 N N σ2 M (nI i) 1 4 = some y from y1, Option.bind_some]
  have hz : ckZ y = some y := by
    unfold ckZ
    rcases y2 with ⟨a, -⟩ | ⟨a, -⟩
    · rw [if_pos (Or.inl a)]
    · rw [if_pos (Or.inr a)]
  rw [hz, Option.bind_some, eσ]
  refine ⟨y, X2, rfl, ?_⟩
  rcases y2 with ⟨a, b⟩ | ⟨a, b⟩
  · exact Or.inl ⟨a, fun q => b ⟨trivial, q⟩⟩
  · exact Or.inr ⟨a, b.2⟩
