/-! Pure, 10: has, raises, would, both -/
theorem b2_some {α β γ : Type} (x : α) (y : β) (f : α → β → Option γ) : b2 (some (x, y)) f = f x y := rfl
theorem b3_some {α β δ γ : Type} (x : α) (y : β) (z : δ) (f : α → β → δ → Option γ) : b3 (some (x, y, z)) f = f x y z := rfl
theorem bs_inl {ρ ε γ : Type} (x : ρ) (f : ρ → Option γ) (g : ε → Option γ) : bs (some (.inl x)) f g = f x := rfl
theorem bs_inr {ρ ε γ : Type} (x : ε) (f : ρ → Option γ) (g : ε → Option γ) : bs (some (.inr x)) f g = g x := rfl
theorem Hi.keep {σ σ' : zS} {b n : Nat} {H : Nat → AS} (hH : ∀ k, k < n → WS (H k)) (hn : n ≤ 4) (h : Hi σ b n H) (hk : ∀ x, b + 37 ≤ x → x < b + 183 → σ' x = σ x) : Hi σ' b n H := by
  obtain ⟨h1, f, p, h2, h3, h4, h5, h6⟩ := h
  refine ⟨by rw [hk _ (by omega) (by omega)]; exact h1, f, p, by rw [hk _ (by omega) (by omega)]; exact h2, h3, h4, fun k hk4 => (h5 k hk4).keep (fun x _ _ => hk x (by omega) (by omega)), fun k hkn => ?_⟩
  have := (h3 k (by omega)).1
  exact (h6 k hkn).keep (hH k hkn).1 (fun x _ _ => hk x (by omega) (by omega))
theorem CR.keep {σ σ' : zS} {b n len : Nat} {s : AS} {H : Nat → AS} {T : Nat → Int32} (hW : WH s n H T len) (h : CR σ b s n H T len) (hk : ∀ x, b ≤ x → x < b + 229 → σ' x = σ x) : CR σ' b s n H T len := by
  obtain ⟨h1, h2, h3, ⟨h4, f, h5, h6⟩, h7, ⟨d, a, re, ca, h8⟩, h9, h10, r, h11⟩ := h
  exact ⟨by rw [hk _ (by omega) (by omega)]; exact h1, h2.keep hW.1.1 (fun x _ _ => hk x (by omega) (by omega)), h3.keep hW.2.2.1 hW.2.1 (fun x _ _ => hk x (by omega) (by omega)), ⟨by rw [hk _ (by omega) (by omega)]; exact h4, f, by rw [hk _ (by omega) (by omega)]; exact h5, h6⟩, h7.keep (fun x _ _ => hk x (by omega) (by omega)), ⟨d, a, re, ca, by rw [hk _ (by omega) (by omega)]; exact h8⟩, h9.keep (fun x _ _ => hk x (by omega) (by omega)), h10.keep (fun x _ _ => hk x (by omega) (by omega)), r, h11.keep (fun x _ _ => hk x (by omega) (by omega))⟩
theorem CR.scr {σ σ' : zS} {b n len : Nat} {s : AS} {H : Nat → AS} {T r' : Nat → Int32} (hW : WH s n H T len) (h : CR σ b s n H T len) (hk : ∀ x, (x < b + 226 ∨ b + 226 + 3 ≤ x) → σ' x = σ x) (hs : Sk σ' (b + 226) r') : CR σ' b s n H T len := by
  obtain ⟨h1, h2, h3, ⟨h4, f, h5, h6⟩, h7, ⟨d, a, re, ca, h8⟩, h9, h10, r, h11⟩ := h
  exact ⟨by rw [hk _ (by omega)]; exact h1, h2.keep hW.1.1 (fun x _ _ => hk x (by omega)), h3.keep hW.2.2.1 hW.2.1 (fun x _ _ => hk x (by omega)), ⟨by rw [hk _ (by omega)]; exact h4, f, by rw [hk _ (by omega)]; exact h5, h6⟩, h7.keep (fun x _ _ => hk x (by omega)), ⟨d, a, re, ca, by rw [hk _ (by omega)]; exact h8⟩, h9.keep (fun x _ _ => hk x (by omega)), h10.keep (fun x _ _ => hk x (by omega)), r', hs⟩
theorem MR.hasmix {σ : zS} {M n len : Nat} {s : AS} {H : Nat → AS} {T : Nat → Int32} (h : MR σ M s n H T len) : ∃ X : Nat → Int32, σ (M + 7) = some (.inl (1, 23, .inl X)) := by
  obtain ⟨f, a, o, r, c, h0, h1, h2, h3, h4, h5, h6, h7⟩ := h
  exact h6
theorem op_has {N : Nat} {σ : zS} {b M n len : Nat} {s : AS} {H : Nat → AS} {T : Nat → Int32} (hN : 7000 < N) (hb : b + 229 ≤ M) (hW : WH s n H T len) (hC : CR σ b s n H T len) (hR : MR σ M s n H T len) (v u w : Int32) : ∃ y σ', m_X8_has N σ b v u w = some y ∧ m_X9_has N σ M v u w = some (y, σ') ∧ CR σ' b s n H T len ∧ MR σ' M s n H T len := by
  have hws := hW.1
  have nw := hR.nw
  have st := hC.2.1
  unfold m_X8_has m_X9_has
  rw [hC.o.2.1, Option.bind_some, st.o.1, Option.bind_some, nw.1.o.1, Option.bind_some]
  rcases tbl_cases s hws.1 v with ⟨i, hi, rfl⟩ | hv
  · have hw := hws.2.2.2 i hi
    have tb := st.tb hi
    rw [st.find_in hws.1 hi, Option.bind_some, Option.elim_some, X9_isTable_in nw hws.1 hi, Option.bind_some, if_neg ne10]
    rcases wi_cases u 999 (by decide) with ⟨t, ht, rfl⟩ | hu
    · rw [(thing_in (by omega)).1, (thing_in (by omega)).2, Option.bind_some, Option.bind_some, if_neg ne10, if_neg ne10, show (1 : Int32) = nI 1 from rfl]
      rcases wi_cases w 1 (by decide) with ⟨k, hk, rfl⟩ | hw9
      · rw [X8_within_in (by decide) hk, Option.bind_some, if_neg ne10, X9_in_in (by decide) hk, Option.bind_some, if_neg ne10]
        have : k = 0 ∨ k = 1 := by omega
        rcases this with rfl | rfl
        · rw [if_pos (by rfl), if_pos (by rfl), tb.o.1, Option.bind_some, X5_saw tb hw hws.2.1 (by omega)]
          simp only [Option.bind_some, nw.1.o.2.1, nw.seen hws.1 hi (x := t) (v := 165 + 1000 * nI i + nI t) (by omega) (by simp only [nlit, pk_mul, nI_add])]
          have tm := (hw.tm hws.2.1 (x := t) (by omega)).2
          by_cases c : sG s i t = 0
          · refine ⟨0, σ, ?_, ?_, hC, hR⟩
            · rw [if_pos c, if_pos rfl]
            · rw [if_pos (tm.mpr c), b2_some, if_pos rfl]
          · refine ⟨1, σ, ?_, ?_, hC, hR⟩
            · rw [if_neg c, if_neg ne10]
              rfl
            · rw [if_neg (fun q => c (tm.mp q)), b2_some, if_neg (show ¬ nI 1 = 0 by decide)]
              rfl
        · obtain ⟨X, hX⟩ := hR.hasmix
          obtain ⟨y, e1, e2⟩ := X3_staysWith (N := N) (t := t) (by omega) tb.2.1 hw.1.1 (by omega)
          obtain ⟨y', X', e3, e4⟩ := X9_couldHave (N := N) (t := t) (by omega) nw hws hi (by omega) hX
          have := e4.uniq e2
          subst this
          rw [if_neg (by decide), if_neg (by decide), tb.o.2.1, Option.bind_some, tb.o.2.2.2.2.2, Option.bind_some, e1]
          simp only [Option.bind_some, e3, b2_some]
          have c' : CR (zup σ (M + 7) (.inl (1, 23, .inl X'))) b s n H T len := hC.keep hW (fun x _ _ => zup_ne _ _ (by omega))
          have m' : MR (zup σ (M + 7) (.inl (1, 23, .inl X'))) M s n H T len := hR.mix
          by_cases cy : y' = 0
          · refine ⟨0, _, ?_, ?_, c', m'⟩
            · rw [if_pos cy]
            · rw [if_pos cy]
          · refine ⟨nI 1, _, ?_, ?_, c', m'⟩
            · rw [if_neg cy]
            · rw [if_neg cy]
      · rw [X8_within_out hw9, Option.bind_some, if_pos rfl, X9_in_out hw9, Option.bind_some, if_pos rfl]
        exact ⟨_, _, rfl, rfl, hC, hR⟩
    · rw [(thing_out hu).1, (thing_out hu).2, Option.bind_some, Option.bind_some, if_pos rfl, if_pos rfl]
      exact ⟨_, _, rfl, rfl, hC, hR⟩
  · rw [st.find_out hv, Option.bind_some, Option.elim_none, X9_isTable_out nw hws.1 hv, Option.bind_some, if_pos rfl]
    exact ⟨_, _, rfl, rfl, hC, hR⟩
theorem raises_L {N : Nat} {σ : zS} {M q i : Nat} {s : AS} (hN : 50 < N) (h : Nw σ M s) (hW : WS s) (hi : i < sM s) (hS : Sk σ q (sR s i)) : ∀ d t n (X : Nat → Int32), t + d = 1000 → d < n → σ (M + 7) = some (.inl (1, 23, .inl X)) ∨ True → ∃ (o : Option Nat) (X' : Nat → Int32), m_X3_lowestRaising_L2 N n σ q (nI t) = some (match o with | some y => .inl (nI y) | none => .inr ()) ∧ m_X9_raises_L12 N n (zup σ (M + 7) (.inl (1, 23, .inl X))) M (nI i) (nI t) = some (match o with | some y => .inl (nI y, zup σ (M + 7) (.inl (1, 23, .inl X'))) | none => .inr (zup σ (M + 7) (.inl (1, 23, .inl X')))) := by
  have hr := (hW.2.2.2 i hi).1.1
  intro d
  induction d with
  | zero =>
    intro t n X ht hn _
    obtain ⟨n, rfl⟩ : ∃ m, n = m + 1 := ⟨n - 1, by omega⟩
    refine ⟨none, X, ?_, ?_⟩
    · rw [m_X3_lowestRaising_L2, if_pos (by rw [show t = 1000 by omega]; decide)]
    · rw [m_X9_raises_L12, if_pos (by rw [show t = 1000 by omega]; decide)]
  | succ d ih =>
    intro t n X ht hn _
    obtain ⟨n, rfl⟩ : ∃ m, n = m + 1 := ⟨n - 1, by omega⟩
    have h4 : Nw (zup σ (M + 7) (.inl (1, 23, .inl X))) M s := h.keep (zup_ne _ _ (by omega)) (zup_ne _ _ (by omega))
    obtain ⟨y, e1, e2⟩ := X3_staysWith (N := N) (t := t) hN hS hr (by omega)
    obtain ⟨y', X', e3, e4⟩ := X9_couldHave (N := N) (t := t) hN h4 hW hi (by omega) (zup_same _ _ _)
    have := e4.uniq e2
    subst this
    rw [zup_zup] at e3
    rw [m_X3_lowestRaising_L2, m_X9_raises_L12, if_neg (litge 1000 (by omega) (by decide)), if_neg (litge 1000 (by omega) (by decide)), hS.fld.2.2.2.2.2.1, h4.1.o.1, e3, e1]
    simp only [Option.bind_some, b2_some]
    by_cases c : y' = 0
    · refine ⟨some t, X', ?_, ?_⟩
      · rw [if_pos c]
      · rw [if_pos c]
    · obtain ⟨o, X2, f1, f2⟩ := ih (t + 1) n X' (by omega) (by omega) (Or.inr trivial)
      refine ⟨o, X2, ?_, ?_⟩
      · rw [if_neg c, nI_1, f1]
      · rw [if_neg c, nI_1, f2]
theorem op_raises {N : Nat} {σ : zS} {b M n len : Nat} {s : AS} {H : Nat → AS} {T : Nat → Int32} (hN : 7000 < N) (hb : b + 229 ≤ M) (hW : WH s n H T len) (hC : CR σ b s n H T len) (hR : MR σ M s n H T len) (v : Int32) : ∃ y σ', m_X8_raises N σ b v = some y ∧ m_X9_raises N σ M v = some (y, σ') ∧ CR σ' b s n H T len ∧ MR σ' M s n H T len := by
  have hws := hW.1
  have nw := hR.nw
  have st := hC.2.1
  unfold m_X8_raises m_X9_raises
  rw [hC.o.2.1, Option.bind_some, st.o.1, Option.bind_some, nw.1.o.1, Option.bind_some]
  rcases tbl_cases s hws.1 v with ⟨i, hi, rfl⟩ | hv
  · have tb := st.tb hi
    obtain ⟨X, hX⟩ := hR.hasmix
    obtain ⟨o, X', e1, e2⟩ := raises_L (N := N) (by omega) nw hws hi tb.2.1 1000 0 N X rfl (by omega) (Or.inr trivial)
    rw [zup_id hX] at e2
    rw [st.find_in hws.1 hi, Option.bind_some, Option.elim_some, X9_isTable_in nw hws.1 hi, Option.bind_some, if_neg ne10, tb.o.2.1, Option.bind_some, tb.o.2.2.2.2.2, Option.bind_some]
    unfold m_X3_lowestRaising
    rw [show (0 : Int32) = nI 0 from rfl, e1, e2]
    have c' : CR (zup σ (M + 7) (.inl (1, 23, .inl X'))) b s n H T len := hC.keep hW (fun x _ _ => zup_ne _ _ (by omega))
    have m' : MR (zup σ (M + 7) (.inl (1, 23, .inl X'))) M s n H T len := hR.mix
    cases o with
    | none => exact ⟨_, _, rfl, rfl, c', m'⟩
    | some x => exact ⟨_, _, rfl, rfl, c', m'⟩
  · rw [st.find_out hv, Option.bind_some, Option.elim_none, X9_isTable_out nw hws.1 hv, Option.bind_some, if_pos rfl]
    exact ⟨_, _, rfl, rfl, hC, hR⟩
theorem RU.zup {σ σ' : zS} {A n o : Nat} {F r' : Nat → Int32} (h : RU σ A n F o r' σ') : ∃ F', σ' = zup σ A (.inl (1, n, .inl F')) ∧ (∀ j, j < 23 → F' (o + j) = r' j) ∧ ∀ x, x < n → (x < o ∨ o + 23 ≤ x) → F' x = F x := h
theorem op_would {N : Nat} {σ : zS} {b M n len : Nat} {s : AS} {H : Nat → AS} {T : Nat → Int32} (hN : 7000 < N) (hb : b + 229 ≤ M) (hW : WH s n H T len) (hC : CR σ b s n H T len) (hR : MR σ M s n H T len) (v u : Int32) : ∃ y σ1 σ', m_X8_would N σ b v u = some (y, σ1) ∧ isO σ1 9 M = some () ∧ m_X9_would N σ1 M v u = some (y, σ') ∧ CR σ' b s n H T len ∧ MR σ' M s n H T len := by
  have hws := hW.1
  have st := hC.2.1
  unfold m_X8_would
  rw [hC.o.2.1, Option.bind_some, st.o.1, Option.bind_some]
  rcases tbl_cases s hws.1 v with ⟨i, hi, rfl⟩ | hv
  · have hw := hws.2.2.2 i hi
    have tb := st.tb hi
    have hM := hws.1
    rw [st.find_in hws.1 hi, Option.bind_some, Option.elim_some]
    rcases wi_cases u 999 (by decide) with ⟨t, ht, rfl⟩ | hu
    · have hsd := hw.1.1.sd
      have hh := hsh_lt t (sdN (sR s i))
      obtain ⟨r0, hr0⟩ := hC.2.2.2.2.2.2.2.2
      obtain ⟨σ1, a1, a2⟩ := X3_copyFrom (N := N) hr0 tb.2.1 (by omega)
      obtain ⟨σ2, b1, b2⟩ := X3_take (N := N) (t := t) (s := sdN (sR s i)) (by omega) a2.1 hw.1.1 (by omega) hsd.1 hsd.2
      have u2 := a2.trans b2
      have hwt := WR_tk hw.1 hh
      have o1 : gA σ1 8 5 b = some (b + 226) := by
        have := gA_at (k := 5) (x := b + 226) hC.1 rfl
        unfold gA at this ⊢
        rw [a2.2 b (by omega)]
        exact this
      have o2 : gA σ2 8 5 b = some (b + 226) := by
        have := gA_at (k := 5) (x := b + 226) hC.1 rfl
        unfold gA at this ⊢
        rw [u2.2 b (by omega)]
        exact this
      rw [(thing_in (by omega)).1, Option.bind_some, if_neg ne10, hC.o.2.2.2.2.2.2, Option.bind_some, tb.o.2.1, Option.bind_some, hr0.fld.2.2.2.2.2.1, Option.bind_some, a1, Option.bind_some, o1, Option.bind_some, a2.1.fld.2.2.2.2.2.1, Option.bind_some, b1, Option.bind_some, o2, Option.bind_some, u2.1.fld.2.2.2.2.2.1, Option.bind_some, X3_told (by omega) u2.1 hwt.1, Option.bind_some]
      have hC2 : CR σ2 b s n H T len := hC.scr hW u2.2 u2.1
      have hR2 : MR σ2 M s n H T len := hR.keep (fun x _ _ => u2.2 x (by omega))
      have nw := hR2.nw
      obtain ⟨X, hX⟩ := hR2.hasmix
      obtain ⟨X1, e1, e2⟩ := X9_laysMix' (N := N) (by omega) nw hM hi hX
      have h4 : Nw (zup σ2 (M + 7) (.inl (1, 23, .inl X1))) M s := nw.keep (zup_ne _ _ (by omega)) (zup_ne _ _ (by omega))
      have hA := zup_same σ2 (M + 7) (.inl (1, 23, .inl X1))
      obtain ⟨σ5, k1, k2⟩ := X9_keeps (N := N) (h := hsh t (sdN (sR s i))) (o := 0) (by omega) hA (by decide) (by decide) (fun j hj => by rw [Nat.zero_add]; exact e2 j hj) hw.1.1 hh
      obtain ⟨X2, c1, c2, c3⟩ := k2
      rw [zup_zup] at c1
      subst c1
      have h5 : Nw (zup σ2 (M + 7) (.inl (1, 23, .inl X2))) M s := nw.keep (zup_ne _ _ (by omega)) (zup_ne _ _ (by omega))
      have hA2 := zup_same σ2 (M + 7) (.inl (1, 23, .inl X2))
      obtain ⟨σ6, d1, d2⟩ := RU.set (o := 0) (k := 2) (x := 2) (b := nI (min ((sR s i 2).toNatClampNeg + 1) 1000000000)) hA2 (by decide) (by decide) c2 (by decide) rfl
      obtain ⟨X3, f1, f2, f3⟩ := d2
      rw [zup_zup] at f1
      subst f1
      have ha := hw.1.1.ad
      have z2 : X2 2 = nI (sR s i 2).toNatClampNeg := by
        have := c2 2 (by decide)
        rw [Nat.zero_add] at this
        rw [this, (ksR_0 _ _ hw.1.1.kt.1).2.2.2, ← ha.2]
      have hA3 := zup_same σ2 (M + 7) (.inl (1, 23, .inl X3))
      have h6 : Nw (zup σ2 (M + 7) (.inl (1, 23, .inl X3))) M s := nw.keep (zup_ne _ _ (by omega)) (zup_ne _ _ (by omega))
      have tl : m_X9_told N (zup σ2 (M + 7) (.inl (1, 23, .inl X3))) (M + 7) (nI 0) = some (nI (toldN (tkR (sR s i) (hsh t (sdN (sR s i)))))) := X9_told (by omega) ⟨23, X3, hA3, by decide, by decide, f2⟩ hwt.1 hwt.lh
      refine ⟨_, σ2, zup σ2 (M + 7) (.inl (1, 23, .inl X3)), rfl, nw.1.o.1, ?_, hC2.keep hW (fun x _ _ => zup_ne _ _ (by omega)), hR2.mix⟩
      unfold m_X9_would
      rw [nw.1.o.1, Option.bind_some, X9_isTable_in nw hM hi, Option.bind_some, if_neg ne10, (thing_in (by omega)).2, Option.bind_some, if_neg ne10, Option.bind_some, e1, Option.bind_some, h4.1.o.2.2.2.1, Option.bind_some, Option.bind_some, aI_at hA (show (1 : Int32) = nI 1 from rfl) (by decide) (by decide), Option.bind_some, e2 1 (by decide), hsd.2, X9_hashOf (by omega) hsd.1, Option.bind_some, show (0 : Int32) = nI 0 from rfl, k1, Option.bind_some, h5.1.o.2.2.2.1, Option.bind_some, Option.bind_some, aI_at hA2 (show (2 : Int32) = nI 2 from rfl) (by decide) (by decide), Option.bind_some, h5.1.o.1, Option.bind_some, z2, show (1 : Int32) = nI 1 from rfl, X9_added ha.1 (by decide), Option.bind_some, d1, Option.bind_some, h6.1.o.2.2.2.1, Option.bind_some, tl, Option.bind_some]
    · rw [(thing_out hu).1, Option.bind_some, if_pos rfl]
      refine ⟨_, σ, σ, rfl, hR.nw.1.o.1, ?_, hC, hR⟩
      unfold m_X9_would
      rw [hR.nw.1.o.1, Option.bind_some, X9_isTable_in hR.nw hM hi, Option.bind_some, if_neg ne10, (thing_out hu).2, Option.bind_some, if_pos rfl]
  · rw [st.find_out hv, Option.bind_some, Option.elim_none]
    refine ⟨_, σ, σ, rfl, hR.nw.1.o.1, ?_, hC, hR⟩
    unfold m_X9_would
    rw [hR.nw.1.o.1, Option.bind_some, X9_isTable_out hR.nw hws.1 hv, Option.bind_some, if_pos rfl]
