/-! Pure, 5: one row mingled into another, both sides; additions -/
theorem X9_added {N : Nat} {σ : zS} {M a b : Nat} (ha : a ≤ 1000000000) (hb : b ≤ 1000000000) : m_X9_added N σ M (nI a) (nI b) = some (nI (min (a + b) 1000000000)) := by
  unfold m_X9_added
  rw [Option.bind_some, nI_l (by omega), nI_l (by omega), show lN a + lN b = lN (a + b) from lN_add a b, show (1000000000 : Int64) = lN 1000000000 from rfl]
  by_cases c : a + b ≤ 1000000000
  · rw [if_pos ((lg_cmp_le _ _).mpr ((pk_lLE (by omega) (by decide)).mpr c)), Nat.min_eq_left c]
    congr 1
    exact lN_i _
  · rw [if_neg (fun q => c ((pk_lLE (by omega) (by decide)).mp ((lg_cmp_le _ _).mp q))), Nat.min_eq_right (by omega)]
    rfl
theorem khR_adF {r : Nat → Int32} (a h : Int32) (hk : ktN r ≤ 8) : khR (adR r a) h = adR (khR r h) a := funext (khR_ad a h hk)
theorem rgR_adF (r : Nat → Int32) (a : Int32) (i : Nat) (g : Int32) : rgR (adR r a) i g = adR (rgR r i g) a := by
  funext j
  unfold rgR adR
  by_cases c2 : j = 2
  · subst c2
    rw [if_neg (by omega), if_pos rfl, if_pos rfl]
  · rw [if_neg c2, if_neg c2, if_neg (show ¬ 14 + i = 2 by omega)]
theorem itH_ad {r' : Nat → Int32} (hr' : rW r') {a : Nat} (ha : a ≤ 1000000000) : ∀ d i r, i + d ≤ 8 → rW r → itH r' d i (adR r (nI a)) = adR (itH r' d i r) (nI a)
  | 0, _, _, _, _ => rfl
  | d + 1, i, r, hi, hr => by
    have hh := hr'.hs (j := i) (by omega)
    rw [itH, itH, khR_adF _ _ hr.kt.1, itH_ad hr' ha d (i + 1) _ (by omega) (by rw [hh.2]; exact rW_kh hr hh.1)]
theorem itG_ad {r' : Nat → Int32} (a : Int32) : ∀ d i r, itG r' d i (adR r a) = adR (itG r' d i r) a
  | 0, _, _ => rfl
  | d + 1, i, r => by rw [itG, itG, rgR_adF, itG_ad a d (i + 1) _]
theorem mgR_ad {r r' : Nat → Int32} (hr : rW r) (hr' : rW r') {a : Nat} (ha : a ≤ 1000000000) : mgR (adR r (nI a)) r' = adR (mgR r r') (nI a) := by
  have hk := hr'.kt
  unfold mgR
  have e : (fun j => if j = 4 then adR r (nI a) 4 ||| r' 4 else adR r (nI a) j) = adR (fun j => if j = 4 then r 4 ||| r' 4 else r j) (nI a) := by
    funext j
    unfold adR
    by_cases c2 : j = 2
    · subst c2
      rfl
    · rw [if_neg c2, if_neg c2, if_neg (show ¬ 4 = 2 by omega)]
  rw [e, itH_ad hr' ha _ _ _ (by omega) (rW_lit hr _), itG_ad]
-- the class
theorem SU.sep {σ σ' : zS} {q q2 : Nat} {r1 r' : Nat → Int32} (h : SU σ q r1 σ') (hs : q2 + 3 ≤ q ∨ q + 3 ≤ q2) (h2 : Sk σ q2 r') : Sk σ' q2 r' := by
  obtain ⟨hs1, rg, h1, h2, h3, h4, h5⟩ := h2
  exact ⟨hs1, rg, by rw [h.2 _ (by omega)]; exact h1, by rw [h.2 _ (by omega)]; exact h2, by rw [h.2 _ (by omega)]; exact h3, h4, h5⟩
theorem X3_unite_H {N : Nat} {q q2 : Nat} {r' : Nat → Int32} (hN : 50 < N) (hs : q2 + 3 ≤ q ∨ q + 3 ≤ q2) (hr' : rW r') : ∀ d i n (σ : zS) (r : Nat → Int32), Sk σ q r → rW r → Sk σ q2 r' → i + d = ktN r' → d < n → ∃ σ', m_X3_unite_L33 N n σ q q2 (nI i) = some σ' ∧ SU σ q (itH r' d i r) σ' := by
  have hk := hr'.kt
  intro d
  induction d with
  | zero =>
    intro i n σ r h1 hr h2 hi hn
    obtain ⟨n, rfl⟩ : ∃ m, n = m + 1 := ⟨n - 1, by omega⟩
    rw [m_X3_unite_L33, h2.fld.2.2.2.2.1, Option.bind_some, if_pos (by rw [hk.2]; exact nI_le (by omega) (by omega))]
    exact ⟨σ, rfl, h1, fun _ _ => rfl⟩
  | succ d ih =>
    intro i n σ r h1 hr h2 hi hn
    obtain ⟨n, rfl⟩ : ∃ m, n = m + 1 := ⟨n - 1, by omega⟩
    have hh := hr'.hs (j := i) (by omega)
    have f := h2.fld
    obtain ⟨σ1, e1, u1⟩ := X3_keepHash (h := (r' (6 + i)).toNatClampNeg) hN h1 hr
    obtain ⟨σ2, e2, u2⟩ := ih (i + 1) n σ1 _ u1.1 (rW_kh hr hh.1) (u1.sep hs h2) (by omega) (by omega)
    obtain ⟨hs1, rg, g1, g2, g3, g4, g5⟩ := h2
    rw [m_X3_unite_L33, f.2.2.2.2.1, Option.bind_some, if_neg (by rw [hk.2]; exact nI_ge (by omega) (by omega)), if_neg (show ¬ (8 : Int32) ≤ nI i from le_neg (a := 8) (by omega) (by decide)), f.2.2.2.2.2.2.1, Option.bind_some, aI_at g2 rfl (by omega) (by decide), Option.bind_some, h1.fld.2.2.2.2.2.1, Option.bind_some, g4 i (by omega) (by rw [hk.2]; exact nI_lt (by omega) (by omega)), hh.2, e1, Option.bind_some, Option.bind_some, nI_1, e2]
    refine ⟨σ2, rfl, ?_⟩
    rw [itH, hh.2]
    exact u1.trans u2
theorem X3_unite_G {N : Nat} {q q2 : Nat} {r' : Nat → Int32} (hs : q2 + 3 ≤ q ∨ q + 3 ≤ q2) : ∀ d i n (σ : zS) (r : Nat → Int32), Sk σ q r → Sk σ q2 r' → i + d = 8 → d < n → ∃ σ', m_X3_unite_L65 N n σ q q2 (nI i) = some σ' ∧ SU σ q (itG r' d i r) σ' := by
  intro d
  induction d with
  | zero =>
    intro i n σ r h1 h2 hi hn
    obtain ⟨n, rfl⟩ : ∃ m, n = m + 1 := ⟨n - 1, by omega⟩
    rw [m_X3_unite_L65, if_pos (by rw [show i = 8 by omega]; decide)]
    exact ⟨σ, rfl, h1, fun _ _ => rfl⟩
  | succ d ih =>
    intro i n σ r h1 h2 hi hn
    obtain ⟨n, rfl⟩ : ∃ m, n = m + 1 := ⟨n - 1, by omega⟩
    have f := h2.fld
    obtain ⟨σ1, e1, u1⟩ := X3_raise (N := N) (i := i) (g := r' (14 + i)) h1 (by omega)
    obtain ⟨σ2, e2, u2⟩ := ih (i + 1) n σ1 _ u1.1 (u1.sep hs h2) (by omega) (by omega)
    obtain ⟨hs1, rg, g1, g2, g3, g4, g5⟩ := h2
    rw [m_X3_unite_L65, if_neg (show ¬ (8 : Int32) ≤ nI i from le_neg (a := 8) (by omega) (by decide)), f.2.2.2.2.2.2.2, Option.bind_some, aI_at g3 rfl (by omega) (by decide), Option.bind_some, h1.fld.2.2.2.2.2.1, Option.bind_some, g5 i (by omega), e1, Option.bind_some, Option.bind_some, nI_1, e2]
    refine ⟨σ2, rfl, ?_⟩
    rw [itG]
    exact u1.trans u2
def adN (r r' : Nat → Int32) : Nat := min ((r 2).toNatClampNeg + (r' 2).toNatClampNeg) 1000000000
/-- what both rows kept, their additions added up -/
def unR (r r' : Nat → Int32) : Nat → Int32 := adR (mgR r r') (nI (adN r r'))
theorem WR_un {r r' : Nat → Int32} (h : WR r) (h' : WR r') (e : r 0 = r' 0) : WR (unR r r') := by
  have a1 := h.1.ad
  have a2 := h'.1.ad
  have m := mgR_W h.1 h'.1
  have l := low_mg h.1 h'.1 e
  have l2 := lowN_le _ m.1
  have b1 := h.2
  have b2 := h'.2
  have an : adN r r' ≤ 1000000000 := Nat.min_le_right _ _
  refine ⟨m.1.ad' an, ?_⟩
  unfold unR
  rw [lowN_ad, show adR (mgR r r') (nI (adN r r')) 2 = nI (adN r r') from rfl, nI_clamp (by omega)]
  unfold adN
  omega
theorem unR_get {r r' : Nat → Int32} (h : rW r) (h' : rW r') : unR r r' 0 = r 0 ∧ unR r r' 1 = r 1 ∧ unR r r' 3 = r 3 ∧ unR r r' 22 = r 22 := by
  have m := mgR_W h h'
  have e : ∀ j, j ≠ 2 → unR r r' j = mgR r r' j := fun j hj => if_neg hj
  rw [e 0 (by omega), e 1 (by omega), e 3 (by omega), e 22 (by omega)]
  exact ⟨m.2.1 0 (by omega), m.2.1 1 (by omega), m.2.1 3 (by omega), m.2.2⟩
theorem X3_unite {N : Nat} {σ : zS} {q q2 : Nat} {r r' : Nat → Int32} (hN : 50 < N) (hs : q2 + 3 ≤ q ∨ q + 3 ≤ q2) (h1 : Sk σ q r) (hr : rW r) (h2 : Sk σ q2 r') (hr' : rW r') : ∃ σ', m_X3_unite N σ q q2 = some σ' ∧ SU σ q (unR r r') σ' := by
  have hk := hr'.kt
  have a1 := hr.ad
  have a2 := hr'.ad
  have an : adN r r' ≤ 1000000000 := Nat.min_le_right _ _
  unfold m_X3_unite
  rw [h1.fld.2.2.1, Option.bind_some, h2.fld.2.2.1, Option.bind_some]
  have ea : imin (r 2 + r' 2) 1000000000 = nI (adN r r') := by
    rw [a1.2, a2.2, nI_add, show (1000000000 : Int32) = nI 1000000000 from rfl, imin_nI (by omega) (by decide)]
    rfl
  rw [ea]
  obtain ⟨σ5, e5, u5⟩ := Sk.set_ad (a := nI (adN r r')) h1
  have k5 := u5.sep hs h2
  have w5 : rW (adR r (nI (adN r r'))) := hr.ad' an
  obtain ⟨σ6, e6, u6⟩ := Sk.set_lit (b := adR r (nI (adN r r')) 4 ||| r' 4) u5.1
  have k6 := u6.sep hs k5
  have w6 := rW_lit w5 (adR r (nI (adN r r')) 4 ||| r' 4)
  obtain ⟨σ7, e7, u7⟩ := X3_unite_H hN hs hr' (ktN r') 0 N σ6 _ u6.1 w6 k6 (by omega) (by omega)
  have k7 := u7.sep hs k6
  obtain ⟨σ8, e8, u8⟩ := X3_unite_G (N := N) hs 8 0 N σ7 _ u7.1 k7 (by omega) (by omega)
  rw [e5, Option.bind_some, u5.1.fld.2.2.2.1, Option.bind_some, k5.fld.2.2.2.1, Option.bind_some, e6, Option.bind_some, show (0 : Int32) = nI 0 from rfl, e7, Option.bind_some, e8, Option.bind_some]
  refine ⟨σ8, rfl, ?_⟩
  have := ((u5.trans u6).trans u7).trans u8
  rw [show itG r' 8 0 (itH r' (ktN r') 0 (fun j => if j = 4 then adR r (nI (adN r r')) 4 ||| r' 4 else adR r (nI (adN r r')) j)) = unR r r' from mgR_ad hr hr' an] at this
  exact this
-- the reference
theorem RU.sep {σ σ' : zS} {A B n o o' : Nat} {F r1 r' : Nat → Int32} (hA : σ A = some (.inl (1, n, .inl F))) (h : RU σ A n F o r1 σ') (hs : B ≠ A ∨ o' + 23 ≤ o ∨ o + 23 ≤ o') (h2 : Rw σ B o' r') : Rw σ' B o' r' := by
  obtain ⟨F', e, a1, a2⟩ := h
  obtain ⟨n2, F2, b1, b2, b3, b4⟩ := h2
  subst e
  by_cases c : B = A
  · subst c
    rw [hA] at b1
    cases b1
    exact ⟨n, F', zup_same _ _ _, b2, b3, fun j hj => by rw [a2 _ (by omega) (by rcases hs with hs | hs; exact absurd rfl hs; omega)]; exact b4 j hj⟩
  · exact ⟨n2, F2, by rw [zup_ne _ _ c]; exact b1, b2, b3, b4⟩
theorem X9_mingles_H {N : Nat} {A B n0 o o' : Nat} {r' : Nat → Int32} (hN : 50 < N) (hn0 : n0 < 100000) (ho : o + 23 ≤ n0) (hs : B ≠ A ∨ o' + 23 ≤ o ∨ o + 23 ≤ o') (hr' : rW r') : ∀ d i n (σ : zS) (F r : Nat → Int32), σ A = some (.inl (1, n0, .inl F)) → (∀ j, j < 23 → F (o + j) = r j) → rW r → Rw σ B o' r' → i + d = ktN r' → d < n → ∃ σ', m_X9_mingles_L16 N n σ A (nI o) B (nI o') (nI i) = some σ' ∧ RU σ A n0 F o (itH r' d i r) σ' := by
  have hk := hr'.kt
  intro d
  induction d with
  | zero =>
    intro i n σ F r hA hF hr h2 hi hn
    obtain ⟨n, rfl⟩ : ∃ m, n = m + 1 := ⟨n - 1, by omega⟩
    rw [m_X9_mingles_L16, h2.rd (j := 5) (by omega) (by simp only [nlit, nI_add]), Option.bind_some, if_pos (by rw [hk.2]; exact nI_le (by omega) (by omega))]
    exact ⟨σ, rfl, F, (zup_id hA).symm, hF, fun _ _ _ => rfl⟩
  | succ d ih =>
    intro i n σ F r hA hF hr h2 hi hn
    obtain ⟨n, rfl⟩ : ∃ m, n = m + 1 := ⟨n - 1, by omega⟩
    have hh := hr'.hs (j := i) (by omega)
    obtain ⟨σ1, e1, u1⟩ := X9_keepHash (h := (r' (6 + i)).toNatClampNeg) hN hA hn0 ho hF hr
    obtain ⟨F1, c1, c2, c3, c4⟩ := u1.at
    obtain ⟨σ2, e2, u2⟩ := ih (i + 1) n σ1 F1 _ c1 c2 (rW_kh hr hh.1) (u1.sep hA hs h2) (by omega) (by omega)
    rw [m_X9_mingles_L16, h2.rd (j := 5) (by omega) (by simp only [nlit, nI_add]), Option.bind_some, if_neg (by rw [hk.2]; exact nI_ge (by omega) (by omega)), h2.rd (j := 6 + i) (by omega) (by simp only [nlit, nI_add]; congr 1; omega), Option.bind_some, hh.2, e1, Option.bind_some, Option.bind_some, nI_1, e2]
    refine ⟨σ2, rfl, ?_⟩
    rw [itH, hh.2]
    exact u1.trans c1 u2
theorem X9_mingles_G {N : Nat} {A B n0 o o' : Nat} {r' : Nat → Int32} (hn0 : n0 < 100000) (ho : o + 23 ≤ n0) (hs : B ≠ A ∨ o' + 23 ≤ o ∨ o + 23 ≤ o') : ∀ d i n (σ : zS) (F r : Nat → Int32), σ A = some (.inl (1, n0, .inl F)) → (∀ j, j < 23 → F (o + j) = r j) → Rw σ B o' r' → i + d = 8 → d < n → ∃ σ', m_X9_mingles_L49 N n σ A (nI o) B (nI o') (nI i) = some σ' ∧ RU σ A n0 F o (itG r' d i r) σ' := by
  intro d
  induction d with
  | zero =>
    intro i n σ F r hA hF h2 hi hn
    obtain ⟨n, rfl⟩ : ∃ m, n = m + 1 := ⟨n - 1, by omega⟩
    rw [m_X9_mingles_L49, if_pos (by rw [show i = 8 by omega]; decide)]
    exact ⟨σ, rfl, F, (zup_id hA).symm, hF, fun _ _ _ => rfl⟩
  | succ d ih =>
    intro i n σ F r hA hF h2 hi hn
    obtain ⟨n, rfl⟩ : ∃ m, n = m + 1 := ⟨n - 1, by omega⟩
    obtain ⟨σ1, e1, u1⟩ := X9_keepRegister (N := N) (i := i) (g := r' (14 + i)) hA hn0 ho hF (by omega)
    obtain ⟨F1, c1, c2, c3, c4⟩ := u1.at
    obtain ⟨σ2, e2, u2⟩ := ih (i + 1) n σ1 F1 _ c1 c2 (u1.sep hA hs h2) (by omega) (by omega)
    rw [m_X9_mingles_L49, if_neg (show ¬ (8 : Int32) ≤ nI i from le_neg (a := 8) (by omega) (by decide)), h2.rd (j := 14 + i) (by omega) (by simp only [nlit, nI_add]; congr 1; omega), Option.bind_some, e1, Option.bind_some, Option.bind_some, nI_1, e2]
    refine ⟨σ2, rfl, ?_⟩
    rw [itG]
    exact u1.trans c1 u2
theorem RU.set {σ : zS} {A n o k : Nat} {F r : Nat → Int32} {x b : Int32} (hA : σ A = some (.inl (1, n, .inl F))) (hn : n < 100000) (ho : o + 23 ≤ n) (hF : ∀ j, j < 23 → F (o + j) = r j) (hk : k < 23) (hx : x = nI (o + k)) : ∃ σ', uI 1 σ A x b = some σ' ∧ RU σ A n F o (fun j => if j = k then b else r j) σ' := by
  rw [uI_at hA hx (by omega) (by omega)]
  refine ⟨_, rfl, _, rfl, fun j hj => ?_, fun y hy hyo => upd_ne _ _ (by omega)⟩
  by_cases c : j = k
  · subst c
    rw [upd_same]
    exact (if_pos rfl).symm
  · rw [upd_ne _ _ (by omega), hF j hj]
    exact (if_neg c).symm
theorem X9_mingles {N : Nat} {σ : zS} {A B n0 o o' : Nat} {F r r' : Nat → Int32} (hN : 50 < N) (hn0 : n0 < 100000) (ho : o + 23 ≤ n0) (hs : B ≠ A ∨ o' + 23 ≤ o ∨ o + 23 ≤ o') (hA : σ A = some (.inl (1, n0, .inl F))) (hF : ∀ j, j < 23 → F (o + j) = r j) (hr : rW r) (h2 : Rw σ B o' r') (hr' : rW r') : ∃ σ', m_X9_mingles N σ A (nI o) B (nI o') = some σ' ∧ RU σ A n0 F o (mgR r r') σ' := by
  have hk := hr'.kt
  have hR : Rw σ A o r := ⟨n0, F, hA, ho, hn0, hF⟩
  unfold m_X9_mingles
  rw [Option.bind_some, hR.rd (j := 4) (by omega) (by simp only [nlit, nI_add]), Option.bind_some, h2.rd (j := 4) (by omega) (by simp only [nlit, nI_add]), Option.bind_some]
  obtain ⟨σ6, e6, u6⟩ := RU.set (x := nI o + 4) (b := r 4 ||| r' 4) hA hn0 ho hF (show 4 < 23 by omega) (by simp only [nlit, nI_add])
  obtain ⟨F6, c1, c2, c3, c4⟩ := u6.at
  have k6 := u6.sep hA hs h2
  obtain ⟨σ7, e7, u7⟩ := X9_mingles_H hN hn0 ho hs hr' (ktN r') 0 N σ6 F6 _ c1 c2 (rW_lit hr _) k6 (by omega) (by omega)
  obtain ⟨F7, d1, d2, d3, d4⟩ := u7.at
  have k7 := u7.sep c1 hs k6
  obtain ⟨σ8, e8, u8⟩ := X9_mingles_G (N := N) hn0 ho hs 8 0 N σ7 F7 _ d1 d2 k7 (by omega) (by omega)
  rw [e6, Option.bind_some, show (0 : Int32) = nI 0 from rfl, e7, Option.bind_some, e8, Option.bind_some]
  exact ⟨σ8, rfl, (u6.trans c1 u7).trans d1 u8⟩
