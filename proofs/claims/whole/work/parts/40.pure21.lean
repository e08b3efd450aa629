/-! Pure, 21: type, clearText -/
/-- what the law wants of a call that may change something, the text too -/
def TwT (N : Nat) (b M : Nat) (σ : zS) (f g : zS → Option (Int32 × zS)) : Prop := ∃ (y : Int32) (σ1 σ' : zS) (s' : AS) (n' : Nat) (H' : Nat → AS) (T' : Nat → Int32) (len' : Nat), f σ = some (y, σ1) ∧ isO σ1 9 M = some () ∧ g σ1 = some (y, σ') ∧ WH s' n' H' T' len' ∧ CR σ' b s' n' H' T' len' ∧ MR σ' M s' n' H' T' len'
theorem Two.t {N b M len : Nat} {T : Nat → Int32} {σ : zS} {f g : zS → Option (Int32 × zS)} (h : Two N b M len T σ f g) : TwT N b M σ f g := by
  obtain ⟨y, σ1, σ', s', n', H', h1, h2, h3, h4, h5, h6⟩ := h
  exact ⟨y, σ1, σ', s', n', H', T, len, h1, h2, h3, h4, h5, h6⟩
/-- the class's text -/
def Tx (σ : zS) (q len : Nat) (T : Nat → Int32) : Prop := σ q = some (.inr (6, [.ref (q + 1), .int (nI len)])) ∧ ∃ f : Nat → Int32, σ (q + 1) = some (.inl (0, 80, .inl f)) ∧ ∀ j, j < len → f j = T j
theorem CR.tx {σ : zS} {b n len : Nat} {s : AS} {H : Nat → AS} {T : Nat → Int32} (h : CR σ b s n H T len) : Tx σ (b + 183) len T := h.2.2.2.1
theorem CR.text {σ σ' : zS} {b n len len' : Nat} {s : AS} {H : Nat → AS} {T T' : Nat → Int32} (hW : WH s n H T len) (h : CR σ b s n H T len) (hk : ∀ x, x ≠ b + 183 → x ≠ b + 184 → σ' x = σ x) (ht : Tx σ' (b + 183) len' T') : CR σ' b s n H T' len' := by
  obtain ⟨h1, h2, h3, -, h7, ⟨d, a, re, ca, h8⟩, h9, h10, r, h11⟩ := h
  exact ⟨by rw [hk _ (by omega) (by omega)]; exact h1, h2.keep hW.1.1 (fun x _ _ => hk x (by omega) (by omega)), h3.keep hW.2.2.1 hW.2.1 (fun x _ _ => hk x (by omega) (by omega)), ht, h7.keep (fun x _ _ => hk x (by omega) (by omega)), ⟨d, a, re, ca, by rw [hk _ (by omega) (by omega)]; exact h8⟩, h9.keep (fun x _ _ => hk x (by omega) (by omega)), h10.keep (fun x _ _ => hk x (by omega) (by omega)), r, h11.keep (fun x _ _ => hk x (by omega) (by omega))⟩
theorem MR.text {σ σ' : zS} {M n len len' : Nat} {s : AS} {H : Nat → AS} {T T' : Nat → Int32} (h : MR σ M s n H T len) (hk : ∀ x, x ≠ M → x ≠ M + 8 → σ' x = σ x) (h1 : ∀ fs, σ M = some (.inr (9, fs)) → σ' M = some (.inr (9, fs.set 10 (.int (nI len'))))) (h2 : ∃ C : Nat → Int32, σ' (M + 8) = some (.inl (1, 80, .inl C)) ∧ ∀ j, j < len' → C j = T' j) : MR σ' M s n H T' len' := by
  obtain ⟨first, at_, ok, re, ca, m0, m1, ⟨F, m2, m2'⟩, ⟨F2, m3⟩, m4, m5, ⟨X0, m6⟩, -⟩ := h
  refine ⟨first, at_, ok, re, ca, m0, h1 _ m1, ⟨F, by rw [hk _ (by omega) (by omega)]; exact m2, m2'⟩, ⟨F2, by rw [hk _ (by omega) (by omega)]; exact m3⟩, fun k h4 => ?_, fun k h4 => ?_, ⟨X0, by rw [hk _ (by omega) (by omega)]; exact m6⟩, h2⟩
  · obtain ⟨F, e⟩ := m4 k h4
    exact ⟨F, by rw [hk _ (by omega) (by omega)]; exact e⟩
  · obtain ⟨F, e, e'⟩ := m5 k h4
    exact ⟨F, by rw [hk _ (by omega) (by omega)]; exact e, e'⟩
theorem op_clearText {N : Nat} {σ : zS} {b M n len : Nat} {s : AS} {H : Nat → AS} {T : Nat → Int32} (hb : b + 229 ≤ M) (hW : WH s n H T len) (hC : CR σ b s n H T len) (hR : MR σ M s n H T len) : TwT N b M σ (fun σ => m_X8_clearText N σ b) (fun σ => m_X9_clearText N σ M) := by
  obtain ⟨t1, f, t2, t3⟩ := hC.tx
  have q1 : zup σ (b + 183) (.inr (6, [.ref (b + 184), .int (nI 0)])) (b + 183) = _ := zup_same _ _ _
  generalize hσ1 : zup σ (b + 183) (.inr (6, [.ref (b + 184), .int (nI 0)])) = σ1 at q1
  have o1 : ∀ x, x ≠ b + 183 → σ1 x = σ x := fun x hx => by rw [← hσ1, zup_ne _ _ hx]
  have hW' : WH s n H T 0 := ⟨hW.1, hW.2.1, hW.2.2.1, by omega, fun j hj => by omega⟩
  have hC1 : CR σ1 b s n H T 0 := hC.text hW (fun x h1 h2 => o1 x h1) ⟨q1, f, (o1 _ (by omega)).trans t2, fun j hj => by omega⟩
  have hR1 : MR σ1 M s n H T len := hR.keep (fun x _ _ => o1 x (by omega))
  have hM := hR1.mb.o.1
  obtain ⟨first, at_, ok, re, ca, m0, m1, -, -, -, -, -, C, m7, m8⟩ := id hR1
  refine ⟨nI len, σ1, zup σ1 M (.inr (9, mF M (nI first) (nI n) (nI 0) at_ ok re ca)), s, n, H, T, 0, ?_, hM, ?_, hW', hC1.keep hW' (fun x _ _ => zup_ne _ _ (by omega)), hR1.text (fun x h1 h2 => zup_ne _ _ h1) (fun fs e => ?_) ⟨C, by rw [zup_ne _ _ (by omega)]; exact m7, fun j hj => by omega⟩⟩
  · dsimp only
    unfold m_X8_clearText m_X6_empty
    have e1 : sI σ 6 1 (b + 183) 0 = some σ1 := by
      rw [sI_at t1 (Nat.le_of_ble_eq_true rfl), ← hσ1]
      rfl
    rw [hC.o.2.2.2.1, Option.bind_some, isO_at t1, Option.bind_some, gI_at t1 rfl, Option.bind_some, e1, Option.bind_some, b2_some]
  · dsimp only
    unfold m_X9_clearText
    rw [gI_at m1 rfl, Option.bind_some, sI_at m1 (Nat.le_of_ble_eq_true rfl), Option.bind_some]
    rfl
  · have e' := m1.symm.trans e
    cases e'
    exact zup_same _ _ _
theorem ch_ck {c : Nat} (h : c < 65536) : ckC (nI c) = some (nI c) ∧ i2c (nI c) = nI c := by
  have e : ((nI c).toUInt32 % 65536).toInt32 = nI c := by
    rw [pk_char, pk_tn (by omega), Nat.mod_eq_of_lt h]
  unfold ckC i2c
  exact ⟨if_pos e, e⟩
theorem op_type {N : Nat} {σ : zS} {b M n len : Nat} {s : AS} {H : Nat → AS} {T : Nat → Int32} (hb : b + 229 ≤ M) (hW : WH s n H T len) (hC : CR σ b s n H T len) (hR : MR σ M s n H T len) (v : Int32) : TwT N b M σ (fun σ => m_X8_type N σ b v) (fun σ => m_X9_type N σ M v) := by
  have same : ∀ y, m_X8_type N σ b v = some (y, σ) → m_X9_type N σ M v = some (y, σ) → TwT N b M σ (fun σ => m_X8_type N σ b v) (fun σ => m_X9_type N σ M v) := fun y h1 h2 => ⟨y, σ, σ, s, n, H, T, len, h1, hR.mb.o.1, h2, hW, hC, hR⟩
  by_cases c1 : v < 32
  · refine same (-1) ?_ ?_
    · unfold m_X8_type
      rw [if_pos c1]
    · unfold m_X9_type m_X9_in
      rw [if_pos c1, Option.bind_some, if_pos rfl]
  · by_cases c2 : v ≤ 126
    · obtain ⟨c, hc, rfl⟩ := nI_of2 (M := 126) (n := 126) (by decide) (fun q => c1 (Int32.lt_iff_toInt_lt.mpr (by
        rw [Int32.lt_iff_toInt_lt, show (0 : Int32).toInt = 0 by decide] at q
        rw [show (32 : Int32).toInt = 32 by decide]
        omega))) c2
      have hc32 : 32 ≤ c := by
        by_cases q : 32 ≤ c
        · exact q
        · exact absurd (show nI c < 32 from nI_lt (a := c) (b := 32) (by omega) (by decide)) c1
      obtain ⟨ck1, ck2⟩ := ch_ck (c := c) (by omega)
      have c3 : ¬ (126 : Int32) < nI c := Int32.not_lt.mpr c2
      have hl := hW.2.2.2.1
      obtain ⟨t1, f, t2, t3⟩ := hC.tx
      by_cases cl : len = 80
      · refine same (-3) ?_ ?_
        · unfold m_X8_type m_X6_append
          rw [if_neg c1, if_pos c2, hC.o.2.2.2.1, Option.bind_some, isO_at t1, Option.bind_some, ck2, gI_at t1 rfl, Option.bind_some, if_neg (nI_pos (by omega)), Option.bind_some, if_neg (by rw [cl]; decide), b2_some, if_pos rfl]
        · obtain ⟨first, at_, ok, re, ca, m0, m1, -⟩ := hR
          unfold m_X9_type m_X9_in
          rw [if_neg c1, if_neg c3, Option.bind_some, if_neg (by decide), gI_at m1 rfl, Option.bind_some, if_pos (by rw [cl]; rfl)]
      · have q1 : zup (zup σ (b + 184) (.inl (0, 80, .inl (upd f len (nI c))))) (b + 183) (.inr (6, [.ref (b + 184), .int (nI (len + 1))])) (b + 183) = _ := zup_same _ _ _
        have q2 : zup (zup σ (b + 184) (.inl (0, 80, .inl (upd f len (nI c))))) (b + 183) (.inr (6, [.ref (b + 184), .int (nI (len + 1))])) (b + 184) = _ := (zup_ne _ _ (by omega)).trans (zup_same _ _ _)
        have p1 : zup σ (b + 184) (.inl (0, 80, .inl (upd f len (nI c)))) (b + 183) = _ := (zup_ne _ _ (by omega)).trans t1
        generalize hσ0 : zup σ (b + 184) (.inl (0, 80, .inl (upd f len (nI c)))) = σ0 at p1 q1 q2
        generalize hσ1 : zup σ0 (b + 183) (.inr (6, [.ref (b + 184), .int (nI (len + 1))])) = σ1 at q1 q2
        have o1 : ∀ x, x ≠ b + 183 → x ≠ b + 184 → σ1 x = σ x := fun x h1 h2 => by rw [← hσ1, zup_ne _ _ h1, ← hσ0, zup_ne _ _ h2]
        have hup : ∀ g : Nat → Int32, (∀ j, j < len → g j = T j) → ∀ j, j < len + 1 → upd g len (nI c) j = upd T len (nI c) j := fun g hg j hj => by
          by_cases q : j = len
          · rw [q, upd_same, upd_same]
          · rw [upd_ne _ _ q, upd_ne _ _ q]
            exact hg j (by omega)
        have hW' : WH s n H (upd T len (nI c)) (len + 1) := ⟨hW.1, hW.2.1, hW.2.2.1, by omega, fun j hj => by
          by_cases q : j = len
          · rw [q, upd_same]
            exact ⟨c, hc32, hc, rfl⟩
          · rw [upd_ne _ _ q]
            exact hW.2.2.2.2 j (by omega)⟩
        have hC1 : CR σ1 b s n H (upd T len (nI c)) (len + 1) := hC.text hW o1 ⟨q1, _, q2, hup f t3⟩
        have hR1 : MR σ1 M s n H T len := hR.keep (fun x _ _ => o1 x (by omega) (by omega))
        have hM := hR1.mb.o.1
        have o9 := hR1.mb.o.2.2.2.2
        obtain ⟨first, at_, ok, re, ca, m0, m1, -, -, -, -, -, C, m7, m8⟩ := id hR1
        have r1 : zup σ1 (M + 8) (.inl (1, 80, .inl (upd C len (nI c)))) M = _ := (zup_ne _ _ (by omega)).trans m1
        refine ⟨nI (len + 1), σ1, zup (zup σ1 (M + 8) (.inl (1, 80, .inl (upd C len (nI c))))) M (.inr (9, mF M (nI first) (nI n) (nI (len + 1)) at_ ok re ca)), s, n, H, _, len + 1, ?_, hM, ?_, hW', hC1.keep hW' (fun x _ _ => by rw [zup_ne _ _ (by omega), zup_ne _ _ (by omega)]), hR1.text (fun x h1 h2 => by rw [zup_ne _ _ h1, zup_ne _ _ h2]) (fun fs e => ?_) ⟨_, by rw [zup_ne _ _ (by omega), zup_same], hup C m8⟩⟩
        · dsimp only
          unfold m_X8_type m_X6_append
          have e1 : sI σ0 6 1 (b + 183) (nI (len + 1)) = some σ1 := by
            rw [sI_at p1 (Nat.le_of_ble_eq_true rfl), ← hσ1]
            rfl
          have e0 : uI 0 σ (b + 184) (nI len) (nI c) = some σ0 := by rw [uI_at t2 rfl (by omega) (by decide), hσ0]
          rw [if_neg c1, if_pos c2, hC.o.2.2.2.1, Option.bind_some, isO_at t1, Option.bind_some, ck2, gI_at t1 rfl, Option.bind_some, if_neg (nI_pos (by omega)), Option.bind_some, if_pos (show nI len < 80 from nI_lt (b := 80) (by omega) (by decide)), gA_at t1 rfl, Option.bind_some, Option.bind_some, ck1, Option.bind_some, e0, Option.bind_some, gI_at p1 rfl, Option.bind_some, nI_1, e1, Option.bind_some, b2_some, if_neg (by decide), hC1.o.2.2.2.1, Option.bind_some, gI_at q1 rfl, Option.bind_some]
        · dsimp only
          unfold m_X9_type m_X9_in
          rw [if_neg c1, if_neg c3, Option.bind_some, if_neg (by decide), gI_at m1 rfl, Option.bind_some, if_neg (by rw [show (80 : Int32) = nI 80 from rfl, nI_eq (by omega) (by decide)]; exact cl), o9, Option.bind_some, Option.bind_some, uI_at m7 rfl (by omega) (by decide), Option.bind_some, gI_at r1 rfl, Option.bind_some, nI_1, sI_at r1 (Nat.le_of_ble_eq_true rfl), Option.bind_some]
          rw [gI_at (zup_same _ _ _) rfl, Option.bind_some]
          rfl
        · have e' := m1.symm.trans e
          cases e'
          exact zup_same _ _ _
    · have c3 : (126 : Int32) < v := Int32.not_le.mp c2
      refine same (-1) ?_ ?_
      · unfold m_X8_type
        rw [if_neg c1, if_neg c2]
      · unfold m_X9_type m_X9_in
        rw [if_neg c1, if_pos c3, Option.bind_some, if_pos rfl]
