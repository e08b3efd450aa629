/-! Pure, 3: registers, what a thing changes in a row, in a sketch; rows stay rows -/
theorem Sk.cong {σ : zS} {q : Nat} {r r' : Nat → Int32} (h : Sk σ q r) (e : ∀ j, j < 22 → r j = r' j) : Sk σ q r' := by
  obtain ⟨hs, rg, h1, h2, h3, h4, h5⟩ := h
  rw [e 0 (by omega), e 1 (by omega), e 2 (by omega), e 4 (by omega), e 5 (by omega)] at h1
  exact ⟨hs, rg, h1, h2, h3, fun j hj hlt => by rw [← e 5 (by omega)] at hlt; rw [h4 j hj hlt, e _ (by omega)], fun j hj => by rw [h5 j hj, e _ (by omega)]⟩
theorem rW.cong {r r' : Nat → Int32} (h : rW r) (e : ∀ j, j < 22 → r j = r' j) : rW r' := by
  obtain ⟨h1, h2, h3, h4, h5, h6⟩ := h
  rw [e 0 (by omega)] at h1
  rw [e 1 (by omega)] at h2
  rw [e 2 (by omega)] at h3
  rw [e 5 (by omega)] at h4
  exact ⟨h1, h2, h3, h4, fun j hj => by rw [← e _ (by omega)]; exact h5 j hj, fun j hj => by rw [← e _ (by omega)]; exact h6 j hj⟩
def rgR (r : Nat → Int32) (i : Nat) (g : Int32) : Nat → Int32 := fun j => if j = 14 + i then (if g ≤ r (14 + i) then r (14 + i) else g) else r j
def adR (r : Nat → Int32) (a : Int32) : Nat → Int32 := fun j => if j = 2 then a else r j
def bitI (h : Nat) : Int32 := 1 <<< ((nI (h / 2048)) &&& 31)
def ksR (r : Nat → Int32) (h : Nat) : Nat → Int32 := if r 0 = 0 then (fun j => if j = 4 then r 4 ||| bitI h else r j) else if r 0 = 1 then khR r (nI h) else rgR r (h % 8) (nI (rkS 13 1 (h / 8)))
def tkR (r : Nat → Int32) (h : Nat) : Nat → Int32 := adR (ksR r h) (nI (min ((r 2).toNatClampNeg + 1) 1000000000))
theorem X9_keepRegister {N : Nat} {σ : zS} {A n o i : Nat} {F r : Nat → Int32} {g : Int32} (hA : σ A = some (.inl (1, n, .inl F))) (hn : n < 100000) (ho : o + 23 ≤ n) (hF : ∀ j, j < 23 → F (o + j) = r j) (hi : i < 8) : ∃ σ', m_X9_keepRegister N σ A (nI o) (nI i) g = some σ' ∧ RU σ A n F o (rgR r i g) σ' := by
  unfold m_X9_keepRegister
  have ex : nI o + 14 + nI i = nI (o + 14 + i) := by simp only [nlit, nI_add]
  have e14 : F (o + 14 + i) = r (14 + i) := by rw [← hF (14 + i) (by omega)]; congr 1; omega
  rw [ex, aI_at hA rfl (by omega) (by omega), Option.bind_some, e14, ibs, uI_at hA rfl (by omega) (by omega), Option.bind_some]
  refine ⟨_, rfl, _, rfl, fun j hj => ?_, fun x hx hxo => upd_ne _ _ (by omega)⟩
  unfold rgR
  by_cases c : j = 14 + i
  · rw [if_pos c, show o + j = o + 14 + i by omega, upd_same]
  · rw [if_neg c, upd_ne _ _ (by omega), hF j hj]
theorem X3_raise {N : Nat} {σ : zS} {q i : Nat} {r : Nat → Int32} {g : Int32} (hR : Sk σ q r) (hi : i < 8) : ∃ σ', m_X3_raise N σ q (nI i) g = some σ' ∧ SU σ q (rgR r i g) σ' := by
  obtain ⟨hs, rg, h1, h2, h3, h4, h5⟩ := hR
  unfold m_X3_raise
  rw [if_neg (nI_pos (by omega)), if_neg (show ¬ (8 : Int32) ≤ _ from le_neg (a := 8) hi (by decide)), gA_at h1 rfl, Option.bind_some, Option.bind_some, aI_at h3 rfl hi (by decide), Option.bind_some, uI_at h3 rfl hi (by decide), Option.bind_some]
  refine ⟨_, rfl, ⟨hs, upd rg i (imax (rg i) g), ?_, ?_, zup_same _ _ _, fun j hj hlt => ?_, fun j hj => ?_⟩, fun a ha => zup_ne _ _ (by omega)⟩
  · rw [zup_ne _ _ (by omega), show rgR r i g 0 = r 0 from if_neg (by omega), show rgR r i g 1 = r 1 from if_neg (by omega), show rgR r i g 2 = r 2 from if_neg (by omega), show rgR r i g 4 = r 4 from if_neg (by omega), show rgR r i g 5 = r 5 from if_neg (by omega)]
    exact h1
  · rw [zup_ne _ _ (by omega)]
    exact h2
  · rw [show rgR r i g (6 + j) = r (6 + j) from if_neg (by omega)]
    exact h4 j hj (by rw [show rgR r i g 5 = r 5 from if_neg (by omega)] at hlt; exact hlt)
  · unfold rgR
    by_cases c : j = i
    · subst c
      rw [upd_same, if_pos rfl, h5 j hj]
      unfold imax
      by_cases c2 : g ≤ r (14 + j)
      · rw [if_pos c2, if_neg (Int32.not_lt.mpr c2)]
      · rw [if_neg c2, if_pos (Int32.not_le.mp c2)]
    · rw [upd_ne _ _ c, if_neg (by omega), h5 j hj]
theorem RU.trans {σ σ1 σ2 : zS} {A n o : Nat} {F F1 r1 r2 : Nat → Int32} (h1 : RU σ A n F o r1 σ1) (hF1 : σ1 A = some (.inl (1, n, .inl F1))) (h2 : RU σ1 A n F1 o r2 σ2) : RU σ A n F o r2 σ2 := by
  obtain ⟨G1, e1, a1, b1⟩ := h1
  obtain ⟨G2, e2, a2, b2⟩ := h2
  subst e1
  rw [zup_same] at hF1
  cases hF1
  subst e2
  exact ⟨G2, zup_zup _ _ _ _, a2, fun x hx hxo => (b2 x hx hxo).trans (b1 x hx hxo)⟩
theorem RU.at {σ σ1 : zS} {A n o : Nat} {F r1 : Nat → Int32} (h1 : RU σ A n F o r1 σ1) : ∃ F1, σ1 A = some (.inl (1, n, .inl F1)) ∧ (∀ j, j < 23 → F1 (o + j) = r1 j) ∧ (∀ x, x < n → (x < o ∨ o + 23 ≤ x) → F1 x = F x) ∧ ∀ a, a ≠ A → σ1 a = σ a := by
  obtain ⟨G1, e1, a1, b1⟩ := h1
  subst e1
  exact ⟨G1, zup_same _ _ _, a1, b1, fun a ha => zup_ne _ _ ha⟩
theorem X9_keeps {N : Nat} {σ : zS} {A n o : Nat} {F r : Nat → Int32} {h : Nat} (hN : 50 < N) (hA : σ A = some (.inl (1, n, .inl F))) (hn : n < 100000) (ho : o + 23 ≤ n) (hF : ∀ j, j < 23 → F (o + j) = r j) (hr : rW r) (hh : h < 65536) : ∃ σ', m_X9_keeps N σ A (nI o) (nI h) = some σ' ∧ RU σ A n F o (ksR r h) σ' := by
  have hR : Rw σ A o r := ⟨n, F, hA, ho, hn, hF⟩
  unfold m_X9_keeps ksR
  rw [hR.rd (j := 0) (by omega) (by simp only [nlit, nI_add]), Option.bind_some]
  by_cases h0 : r 0 = 0
  · rw [if_pos h0, if_pos h0, Option.bind_some, hR.rd (j := 4) (by omega) (by simp only [nlit, nI_add]), Option.bind_some, show (2048 : Int32) = nI 2048 from rfl, pk_div (by omega) (by decide) (by decide), uI_at hA (k := o + 4) (by simp only [nlit, nI_add]) (by omega) (by omega), Option.bind_some]
    refine ⟨_, rfl, _, rfl, fun j hj => ?_, fun x hx hxo => upd_ne _ _ (by omega)⟩
    dsimp only
    by_cases c : j = 4
    · rw [if_pos c, c, upd_same]
      rfl
    · rw [if_neg c, upd_ne _ _ (by omega), hF j hj]
  · rw [if_neg h0, if_neg h0]
    by_cases h1 : r 0 = 1
    · rw [if_pos h1, if_pos h1]
      obtain ⟨σ', e, hu⟩ := X9_keepHash (h := h) hN hA hn ho hF hr
      exact ⟨σ', by rw [e, Option.bind_some], hu⟩
    · rw [if_neg h1, if_neg h1, show (8 : Int32) = nI 8 from rfl, pk_div (by omega) (by decide) (by decide), X9_rank hN (by omega), Option.bind_some, irem_nI (by omega) (by decide) (by decide)]
      obtain ⟨σ', e, hu⟩ := X9_keepRegister (N := N) (i := h % 8) (g := nI (rkS 13 1 (h / 8))) hA hn ho hF (by omega)
      exact ⟨σ', by rw [e, Option.bind_some], hu⟩
theorem plS_cong {r r' : Nat → Int32} (h : Int32) (e : ∀ j, j < 8 → r (6 + j) = r' (6 + j)) : ∀ d i, i + d ≤ 8 → plS r h d i = plS r' h d i
  | 0, _, _ => rfl
  | d + 1, i, hi => by rw [plS, plS, e i (by omega), plS_cong h e d (i + 1) (by omega)]
theorem khR_ad {r : Nat → Int32} (a h : Int32) (hk : ktN r ≤ 8) : ∀ j, khR (adR r a) h j = adR (khR r h) a j := by
  intro j
  have e1 : ktN (adR r a) = ktN r := rfl
  have e2 : plN (adR r a) h = plN r h := by
    unfold plN
    rw [e1]
    exact plS_cong h (fun j hj => if_neg (by omega)) _ _ (by omega)
  have hp := plN_le r h
  by_cases c2 : j = 2
  · rw [khR_get _ _ (by omega) (by omega) (by rw [e1]; exact hk)]
    rw [c2]
    rfl
  · have e3 : ∀ x, x ≠ 2 → adR r a x = r x := fun x hx => if_neg hx
    rw [show adR (khR r h) a j = khR r h j from if_neg c2]
    unfold khR
    rw [e1, e2, e3 j c2, e3 (6 + plN r h) (by omega)]
    by_cases c : plN r h = 8 ∨ (plN r h < ktN r ∧ r (6 + plN r h) = h)
    · rw [if_pos c, if_pos c]
    · rw [if_neg c, if_neg c]
      by_cases c5 : j = 5
      · rw [if_pos c5, if_pos c5]
      · rw [if_neg c5, if_neg c5]
        by_cases c6 : j = 6 + plN r h
        · rw [if_pos c6, if_pos c6]
        · rw [if_neg c6, if_neg c6]
          unfold shf
          by_cases c7 : 6 + plN r h < j ∧ j ≤ 6 + plN r h + (min (ktN r) 7 - plN r h)
          · rw [if_pos c7, if_pos c7, e3 _ (by omega)]
          · rw [if_neg c7, if_neg c7, e3 _ c2]
theorem rW.ad' {r : Nat → Int32} (h : rW r) {a : Nat} (ha : a ≤ 1000000000) : rW (adR r (nI a)) := ⟨h.1, h.2.1, ⟨a, ha, rfl⟩, h.2.2.2.1, fun j hj => by rw [show adR r (nI a) (6 + j) = r (6 + j) from if_neg (by omega)]; exact h.2.2.2.2.1 j hj, fun j hj => by rw [show adR r (nI a) (14 + j) = r (14 + j) from if_neg (by omega)]; exact h.2.2.2.2.2 j hj⟩
theorem and7 {h : Nat} : nI h &&& 7 = nI (h % 8) := by
  rw [show (7 : Int32) = nI 7 from rfl, nx_and, show ∀ z : Nat, z &&& 7 = z % 8 from fun z => Nat.and_two_pow_sub_one_eq_mod z 3]
theorem bit_eq {h : Nat} (hh : h < 65536) : (1 : Int32) <<< (((nI h / 2048) &&& 31) &&& 31) = bitI h := by
  unfold bitI
  rw [show (2048 : Int32) = nI 2048 from rfl, pk_div (by omega) (by decide) (by decide)]
  have : ∀ k, k < 32 → ((nI k &&& 31) &&& 31) = (nI k &&& 31) := by decide +kernel
  rw [this (h / 2048) (by omega)]
theorem Sk.set_ad {σ : zS} {q : Nat} {r : Nat → Int32} {a : Int32} (hR : Sk σ q r) : ∃ σ', sI σ 3 2 q a = some σ' ∧ SU σ q (adR r a) σ' := by
  obtain ⟨hs, rg, h1, h2, h3, h4, h5⟩ := hR
  rw [sI_at h1 (Nat.le_of_ble_eq_true rfl)]
  refine ⟨_, rfl, ⟨hs, rg, zup_same _ _ _, by rw [zup_ne _ _ (by omega)]; exact h2, by rw [zup_ne _ _ (by omega)]; exact h3, fun j hj hlt => ?_, fun j hj => ?_⟩, fun x hx => zup_ne _ _ (by omega)⟩
  · rw [h4 j hj hlt]
    exact (if_neg (by omega)).symm
  · rw [h5 j hj]
    exact (if_neg (by omega)).symm
theorem Sk.set_lit {σ : zS} {q : Nat} {r : Nat → Int32} {b : Int32} (hR : Sk σ q r) : ∃ σ', sI σ 3 3 q b = some σ' ∧ SU σ q (fun j => if j = 4 then b else r j) σ' := by
  obtain ⟨hs, rg, h1, h2, h3, h4, h5⟩ := hR
  rw [sI_at h1 (Nat.le_of_ble_eq_true rfl)]
  refine ⟨_, rfl, ⟨hs, rg, zup_same _ _ _, by rw [zup_ne _ _ (by omega)]; exact h2, by rw [zup_ne _ _ (by omega)]; exact h3, fun j hj hlt => ?_, fun j hj => ?_⟩, fun x hx => zup_ne _ _ (by omega)⟩
  · rw [h4 j hj hlt]
    exact (if_neg (by omega)).symm
  · rw [h5 j hj]
    exact (if_neg (by omega)).symm
theorem SU.trans {σ σ1 σ2 : zS} {q : Nat} {r1 r2 : Nat → Int32} (h1 : SU σ q r1 σ1) (h2 : SU σ1 q r2 σ2) : SU σ q r2 σ2 := ⟨h2.1, fun a ha => (h2.2 a ha).trans (h1.2 a ha)⟩
theorem Sk.fld {σ : zS} {q : Nat} {r : Nat → Int32} (hR : Sk σ q r) : gI σ 3 0 q = some (r 0) ∧ gI σ 3 1 q = some (r 1) ∧ gI σ 3 2 q = some (r 2) ∧ gI σ 3 3 q = some (r 4) ∧ gI σ 3 4 q = some (r 5) ∧ isO σ 3 q = some () ∧ gA σ 3 5 q = some (q + 1) ∧ gA σ 3 6 q = some (q + 2) := by
  obtain ⟨hs, rg, h1, h2, h3, h4, h5⟩ := hR
  exact ⟨gI_at h1 rfl, gI_at h1 rfl, gI_at h1 rfl, gI_at h1 rfl, gI_at h1 rfl, isO_at h1, gA_at h1 rfl, gA_at h1 rfl⟩
theorem X3_take {N : Nat} {σ : zS} {q t s : Nat} {r : Nat → Int32} (hN : 50 < N) (hR : Sk σ q r) (hr : rW r) (ht : t < 1000) (hs : s ≤ 9) (h1s : r 1 = nI s) : ∃ σ', m_X3_take N σ q (nI t) = some σ' ∧ SU σ q (tkR r (hsh t s)) σ' := by
  have hh := hsh_lt t s
  obtain ⟨f0, f1, f2, f3, f4, f5, f6, f7⟩ := hR.fld
  have ha := hr.ad
  unfold m_X3_take
  rw [f1, Option.bind_some, h1s, X8_hashOf ht hs, Option.bind_some, f2, Option.bind_some]
  have ea : imin (r 2 + 1) 1000000000 = nI (min ((r 2).toNatClampNeg + 1) 1000000000) := by
    rw [ha.2, nI_1, show (1000000000 : Int32) = nI 1000000000 from rfl, imin_nI (by omega) (by decide), nI_clamp (by omega)]
  rw [ea]
  generalize hg : min ((r 2).toNatClampNeg + 1) 1000000000 = a9
  obtain ⟨σ7, e7, hu7⟩ := Sk.set_ad (a := nI a9) hR
  have hR7 := hu7.1
  have hr7 : rW (adR r (nI a9)) := hr.ad' (by omega)
  obtain ⟨g0, g1, g2, g3, g4, g5, g6, g7⟩ := hR7.fld
  rw [e7, Option.bind_some, g0, Option.bind_some, show adR r (nI a9) 0 = r 0 from rfl]
  unfold tkR ksR
  rw [hg]
  by_cases h0 : r 0 = 0
  · rw [if_pos h0, if_pos h0, g3, Option.bind_some, g5, Option.bind_some]
    unfold m_X3_bitOf
    rw [Option.bind_some, bit_eq hh]
    obtain ⟨σ8, e8, hu8⟩ := Sk.set_lit (b := adR r (nI a9) 4 ||| bitI (hsh t s)) hR7
    refine ⟨σ8, by rw [e8, Option.bind_some], (hu7.trans hu8).1.cong (fun j _ => ?_), (hu7.trans hu8).2⟩
    unfold adR
    by_cases c2 : j = 2
    · subst c2
      rfl
    · by_cases c4 : j = 4
      · subst c4
        rfl
      · simp [c2, c4]
  · rw [if_neg h0, if_neg h0, Option.bind_some]
    by_cases h1 : r 0 = 1
    · rw [if_pos h1, if_pos h1, g5, Option.bind_some]
      obtain ⟨σ8, e8, hu8⟩ := X3_keepHash (h := hsh t s) hN hR7 hr7
      refine ⟨σ8, by rw [e8, Option.bind_some], (hu7.trans hu8).1.cong (fun j _ => khR_ad _ _ hr.kt.1 j), (hu7.trans hu8).2⟩
    · rw [if_neg h1, if_neg h1, g5, Option.bind_some]
      unfold m_X3_registerOf
      rw [Option.bind_some, show (8 : Int32) = nI 8 from rfl, pk_div (by omega) (by decide) (by decide), X8_rankOf hN (by omega), Option.bind_some, Option.bind_some, and7]
      obtain ⟨σ8, e8, hu8⟩ := X3_raise (N := N) (i := hsh t s % 8) (g := nI (rkS 13 1 (hsh t s / 8))) hR7 (by omega)
      refine ⟨σ8, by rw [e8, Option.bind_some], (hu7.trans hu8).1.cong (fun j _ => ?_), (hu7.trans hu8).2⟩
      unfold rgR adR
      by_cases c2 : j = 2
      · subst c2
        rw [if_neg (by omega), if_pos rfl, if_pos rfl]
      · rw [if_neg c2, if_neg c2, if_neg (show ¬ 14 + hsh t s % 8 = 2 by omega)]
