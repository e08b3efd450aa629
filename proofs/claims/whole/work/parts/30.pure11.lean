/-! Pure, 11: both -/
def bothC (g g' : Nat → Int32) (x : Nat) : Nat := if g x = 0 then 0 else if g' x = 0 then 0 else 1
def eithC (g g' : Nat → Int32) (x : Nat) : Nat := if g x = 0 then (if g' x = 0 then 0 else 1) else 1
theorem nS_pair {f f' e b : Nat → Nat} : ∀ d j, (∀ x, j ≤ x → x < j + d → f x + f' x = e x + b x) → nS f d j + nS f' d j = nS e d j + nS b d j
  | 0, _, _ => rfl
  | d + 1, j, h => by
    have h1 := h j (Nat.le_refl j) (by omega)
    have h2 := nS_pair (f := f) (f' := f') (e := e) (b := b) d (j + 1) (fun x a b => h x (by omega) (by omega))
    rw [nS, nS, nS, nS]
    omega
theorem X5_sawToo {N t : Nat} {σ : zS} {q q' : Nat} {r g r' g' : Nat → Int32} (hN : 1050 < N) (ht : t ≤ 20000) (h : Tb σ q r g) (hw : WT t r g) (h' : Tb σ q' r' g') (hw' : WT t r' g') : m_X5_sawToo N σ q q' = some (nI (nS (bothC g g') 1000 0)) := by
  unfold m_X5_sawToo
  rw [show m_X5_sawToo_L4 N N σ q q' 0 0 = m_X5_sawToo_L4 N N σ q q' (nI 0) (nI 0) from rfl]
  have key := lsum (Lf := fun m v j => m_X5_sawToo_L4 N m σ q q' v j) (f := fun x => nI (bothC g g' x)) (e := 1000) (lo := 0)
    (fun m v => by
      show m_X5_sawToo_L4 N (m + 1) σ q q' v (nI 1000) = _
      rw [m_X5_sawToo_L4, if_pos (by decide)])
    (fun m x v _ hx => by
      show m_X5_sawToo_L4 N (m + 1) σ q q' v (nI x) = m_X5_sawToo_L4 N m σ q q' _ (nI (x + 1))
      have tm := (hw.tm ht hx).1
      have tm' := (hw'.tm ht hx).1
      rw [m_X5_sawToo_L4, if_neg (litge 1000 hx (by decide))]
      simp only [h.o.2.2.1, h'.o.2.2.1, h.time hx, h'.time hx, Option.bind_some]
      unfold bothC
      by_cases c : g x = 0
      · rw [if_pos (tm.mpr c), if_pos c, Option.bind_some, nI_1, nI_0, Int32.add_zero]
      · rw [if_neg (fun q => c (tm.mp q)), if_neg c]
        by_cases c' : g' x = 0
        · rw [if_pos (tm'.mpr c'), if_pos c', Option.bind_some, nI_1, nI_0, Int32.add_zero]
        · rw [if_neg (fun q => c' (tm'.mp q)), if_neg c', Option.bind_some, nI_1]
          rfl)
    1000 0 N (nI 0) (Nat.le_refl 0) rfl (by omega)
  rw [key, Option.bind_some, sS_nI, nI_add, Nat.zero_add]
theorem cntG_eq {t : Nat} {r g : Nat → Int32} (hw : WT t r g) (ht : t ≤ 20000) : cntG g = nS (fun x => if g x = 0 then 0 else 1) 1000 0 := by
  unfold cntG
  refine nS_cong 1000 0 (fun x _ hx => ?_)
  have tm := (hw.tm ht (x := x) (by omega)).2
  by_cases c : g x = 0
  · rw [if_pos (tm.mpr c), if_pos c]
  · rw [if_neg (fun q => c (tm.mp q)), if_neg c]
theorem cnt_both {t : Nat} {r g r' g' : Nat → Int32} (ht : t ≤ 20000) (hw : WT t r g) (hw' : WT t r' g') : cntG g + cntG g' = nS (eithC g g') 1000 0 + nS (bothC g g') 1000 0 := by
  rw [cntG_eq hw ht, cntG_eq hw' ht]
  refine nS_pair 1000 0 (fun x _ _ => ?_)
  unfold eithC bothC
  split <;> split <;> rfl
theorem cntG_le (g : Nat → Int32) : cntG g ≤ 1000 := by
  have := nS_le (f := fun x => if g x ≤ 0 then 0 else 1) (c := 1) 1000 0 (fun x _ _ => by
    by_cases c : g x ≤ 0
    · rw [if_pos c]
      omega
    · rw [if_neg c]
      omega)
  unfold cntG
  omega
theorem X9_seenByBoth {N : Nat} {σ : zS} {M i j k : Nat} {s : AS} (hN : 1050 < N) (h : Nw σ M s) (hW : WS s) (hi : i < sM s) (hj : j < sM s) (hk : k = 1 ∨ k = 2) : m_X9_seenByBoth N σ M (nI i) (nI j) (nI k) = some (nI (nS (if k = 1 then eithC (sG s i) (sG s j) else bothC (sG s i) (sG s j)) 1000 0)) := by
  unfold m_X9_seenByBoth
  rw [show m_X9_seenByBoth_L6 N N σ M (nI i) (nI j) (nI k) 0 0 = m_X9_seenByBoth_L6 N N σ M (nI i) (nI j) (nI k) (nI 0) (nI 0) from rfl]
  have key := lsum (Lf := fun m v x => m_X9_seenByBoth_L6 N m σ M (nI i) (nI j) (nI k) v x) (f := fun x => nI ((if k = 1 then eithC (sG s i) (sG s j) else bothC (sG s i) (sG s j)) x)) (e := 1000) (lo := 0)
    (fun m v => by
      show m_X9_seenByBoth_L6 N (m + 1) σ M (nI i) (nI j) (nI k) v (nI 1000) = _
      rw [m_X9_seenByBoth_L6, if_pos (by decide)])
    (fun m x v _ hx => by
      show m_X9_seenByBoth_L6 N (m + 1) σ M (nI i) (nI j) (nI k) v (nI x) = m_X9_seenByBoth_L6 N m σ M (nI i) (nI j) (nI k) _ (nI (x + 1))
      have tm := ((hW.2.2.2 i hi).tm hW.2.1 hx).2
      have tm' := ((hW.2.2.2 j hj).tm hW.2.1 hx).2
      rw [m_X9_seenByBoth_L6, if_neg (litge 1000 hx (by decide))]
      simp only [h.1.o.2.1, h.seen hW.1 hi (x := x) (v := 165 + 1000 * nI i + nI x) hx (by simp only [nlit, pk_mul, nI_add]), h.seen hW.1 hj (x := x) (v := 165 + 1000 * nI j + nI x) hx (by simp only [nlit, pk_mul, nI_add]), Option.bind_some]
      by_cases c : sG s i x = 0
      · by_cases c' : sG s j x = 0
        · simp only [if_pos (tm.mpr c), if_pos (tm'.mpr c'), Option.bind_some]
          rcases hk with rfl | rfl
          · rw [show (if (1 : Nat) = 1 then eithC (sG s i) (sG s j) else bothC (sG s i) (sG s j)) x = 0 by rw [if_pos rfl]; unfold eithC; rw [if_pos c, if_pos c'], if_pos (by decide), Option.bind_some, nI_1]
            rfl
          · rw [show (if (2 : Nat) = 1 then eithC (sG s i) (sG s j) else bothC (sG s i) (sG s j)) x = 0 by rw [if_neg (by decide)]; unfold bothC; rw [if_pos c], if_pos (by decide), Option.bind_some, nI_1]
            rfl
        · simp only [if_pos (tm.mpr c), if_neg (fun q => c' (tm'.mp q)), Option.bind_some]
          rcases hk with rfl | rfl
          · rw [show (if (1 : Nat) = 1 then eithC (sG s i) (sG s j) else bothC (sG s i) (sG s j)) x = 1 by rw [if_pos rfl]; unfold eithC; rw [if_pos c, if_neg c'], if_neg (by decide), Option.bind_some, nI_1]
            rfl
          · rw [show (if (2 : Nat) = 1 then eithC (sG s i) (sG s j) else bothC (sG s i) (sG s j)) x = 0 by rw [if_neg (by decide)]; unfold bothC; rw [if_pos c], if_pos (by decide), Option.bind_some, nI_1]
            rfl
      · by_cases c' : sG s j x = 0
        · simp only [if_neg (fun q => c (tm.mp q)), if_pos (tm'.mpr c'), Option.bind_some]
          rcases hk with rfl | rfl
          · rw [show (if (1 : Nat) = 1 then eithC (sG s i) (sG s j) else bothC (sG s i) (sG s j)) x = 1 by rw [if_pos rfl]; unfold eithC; rw [if_neg c], if_neg (by decide), Option.bind_some, nI_1]
            rfl
          · rw [show (if (2 : Nat) = 1 then eithC (sG s i) (sG s j) else bothC (sG s i) (sG s j)) x = 0 by rw [if_neg (by decide)]; unfold bothC; rw [if_neg c, if_pos c'], if_pos (by decide), Option.bind_some, nI_1]
            rfl
        · simp only [if_neg (fun q => c (tm.mp q)), if_neg (fun q => c' (tm'.mp q)), Option.bind_some]
          rcases hk with rfl | rfl
          · rw [show (if (1 : Nat) = 1 then eithC (sG s i) (sG s j) else bothC (sG s i) (sG s j)) x = 1 by rw [if_pos rfl]; unfold eithC; rw [if_neg c], if_neg (by decide), Option.bind_some, nI_1]
            rfl
          · rw [show (if (2 : Nat) = 1 then eithC (sG s i) (sG s j) else bothC (sG s i) (sG s j)) x = 1 by rw [if_neg (by decide)]; unfold bothC; rw [if_neg c, if_neg c'], if_neg (by decide), Option.bind_some, nI_1]
            rfl)
    1000 0 N (nI 0) (Nat.le_refl 0) rfl (by omega)
  rw [key, Option.bind_some, sS_nI, nI_add, Nat.zero_add]
theorem X9_areAlike {N : Nat} {σ : zS} {M i j : Nat} {s : AS} (h : Nw σ M s) (hM : sM s ≤ 6) (hi : i < sM s) (hj : j < sM s) : m_X9_areAlike N σ M (nI i) (nI j) = some (if sR s i 0 = sR s j 0 ∧ sR s i 1 = sR s j 1 then 1 else 0) := by
  unfold m_X9_areAlike
  simp only [h.1.o.2.1, Option.bind_some, (h.row hM hi).rd (j := 0) (x := 23 * nI i + 0) (by omega) (by simp only [nlit, pk_mul, nI_add]), (h.row hM hj).rd (j := 0) (x := 23 * nI j + 0) (by omega) (by simp only [nlit, pk_mul, nI_add]), (h.row hM hi).rd (j := 1) (x := 23 * nI i + 1) (by omega) (by simp only [nlit, pk_mul, nI_add]), (h.row hM hj).rd (j := 1) (x := 23 * nI j + 1) (by omega) (by simp only [nlit, pk_mul, nI_add])]
  by_cases c : sR s i 0 = sR s j 0
  · rw [if_pos c]
    by_cases c1 : sR s i 1 = sR s j 1
    · rw [if_pos c1, if_pos ⟨c, c1⟩]
    · rw [if_neg c1, if_neg (fun q => c1 q.2)]
  · rw [if_neg c, if_neg (fun q => c q.1)]
theorem X3_isLike {N : Nat} {σ : zS} {q q' : Nat} {r r' : Nat → Int32} (h : Sk σ q r) (h' : Sk σ q' r') : m_X3_isLike N σ q q' = some (if r 0 = r' 0 ∧ r 1 = r' 1 then 1 else 0) := by
  unfold m_X3_isLike
  simp only [h.fld.1, h'.fld.1, h.fld.2.1, h'.fld.2.1, Option.bind_some]
  by_cases c : r 0 = r' 0
  · rw [if_pos c]
    by_cases c1 : r 1 = r' 1
    · rw [if_pos c1, if_pos ⟨c, c1⟩]
    · rw [if_neg c1, if_neg (fun q => c1 q.2)]
  · rw [if_neg c, if_neg (fun q => c q.1)]
theorem X9_toldOfBoth {N : Nat} {σ : zS} {M i j : Nat} {s : AS} {X : Nat → Int32} (hN : 50 < N) (nw : Nw σ M s) (hW : WS s) (hi : i < sM s) (hj : j < sM s) (he : sR s i 0 = sR s j 0) (hX : σ (M + 7) = some (.inl (1, 23, .inl X))) : ∃ X', m_X9_toldOfBoth N σ M (nI i) (nI j) = some (nI (toldN (unR (sR s i) (sR s j))), zup σ (M + 7) (.inl (1, 23, .inl X'))) := by
  have hM := hW.1
  have hwi := (hW.2.2.2 i hi).1
  have hwj := (hW.2.2.2 j hj).1
  have hun := WR_un hwi hwj he
  obtain ⟨X1, e1, e2⟩ := X9_laysMix' (N := N) hN nw hM hi hX
  have h4 : Nw (zup σ (M + 7) (.inl (1, 23, .inl X1))) M s := nw.keep (zup_ne _ _ (by omega)) (zup_ne _ _ (by omega))
  have hA := zup_same σ (M + 7) (.inl (1, 23, .inl X1))
  obtain ⟨σ5, k1, k2⟩ := X9_mingles (N := N) (o := 0) (o' := 23 * j) hN (by decide) (by decide) (Or.inl (show M + 1 ≠ M + 7 by omega)) hA (fun j hj => by rw [Nat.zero_add]; exact e2 j hj) hwi.1 (h4.row hM hj) hwj.1
  obtain ⟨X2, c1, c2, c3⟩ := k2
  rw [zup_zup] at c1
  subst c1
  have h5 : Nw (zup σ (M + 7) (.inl (1, 23, .inl X2))) M s := nw.keep (zup_ne _ _ (by omega)) (zup_ne _ _ (by omega))
  have hA2 := zup_same σ (M + 7) (.inl (1, 23, .inl X2))
  obtain ⟨σ6, d1, d2⟩ := RU.set (o := 0) (k := 2) (x := 2) (b := nI (adN (sR s i) (sR s j))) hA2 (by decide) (by decide) c2 (by decide) rfl
  obtain ⟨X3, f1, f2, f3⟩ := d2
  rw [zup_zup] at f1
  subst f1
  have ha := hwi.1.ad
  have ha' := hwj.1.ad
  have z2 : X2 2 = nI (sR s i 2).toNatClampNeg := by
    have := c2 2 (by decide)
    rw [Nat.zero_add] at this
    rw [this, (mgR_W hwi.1 hwj.1).2.1 2 (by decide), ← ha.2]
  have y2 : aI 1 (zup σ (M + 7) (.inl (1, 23, .inl X2))) (M + 1) (23 * nI j + 2) = some (nI (sR s j 2).toNatClampNeg) := by
    rw [(h5.row hM hj).rd (j := 2) (by omega) (by simp only [nlit, pk_mul, nI_add]), ← ha'.2]
  have hA3 := zup_same σ (M + 7) (.inl (1, 23, .inl X3))
  have h6 : Nw (zup σ (M + 7) (.inl (1, 23, .inl X3))) M s := nw.keep (zup_ne _ _ (by omega)) (zup_ne _ _ (by omega))
  have tl : m_X9_told N (zup σ (M + 7) (.inl (1, 23, .inl X3))) (M + 7) 0 = some (nI (toldN (unR (sR s i) (sR s j)))) := X9_told (o := 0) hN ⟨23, X3, hA3, by decide, by decide, f2⟩ hun.1 hun.lh
  refine ⟨X3, ?_⟩
  unfold m_X9_toldOfBoth
  have k1' : m_X9_mingles N (zup σ (M + 7) (.inl (1, 23, .inl X1))) (M + 7) 0 (M + 1) (23 * nI j) = some (zup σ (M + 7) (.inl (1, 23, .inl X2))) := by
    rw [show (23 : Int32) = nI 23 from rfl, pk_mul]
    exact k1
  have ad : ∀ σ' : zS, m_X9_added N σ' M (nI (sR s i 2).toNatClampNeg) (nI (sR s j 2).toNatClampNeg) = some (nI (adN (sR s i) (sR s j))) := fun σ' => X9_added ha.1 ha'.1
  simp only [nw.1.o.1, Option.bind_some, e1, h4.1.o.2.2.2.1, h4.1.o.2.1, k1', h5.1.o.2.2.2.1, h5.1.o.2.1, aI_at hA2 (show (2 : Int32) = nI 2 from rfl) (by decide) (by decide), z2, y2, h5.1.o.1, ad, d1, h6.1.o.2.2.2.1, tl]
theorem imax0 (x : Int32) : imax 0 x = if 0 ≤ x then x else 0 := by
  unfold imax
  by_cases c : 0 < x
  · rw [if_pos c, if_pos (Int32.le_of_lt c)]
  · rw [if_neg c]
    by_cases c2 : 0 ≤ x
    · rw [if_pos c2]
      exact Int32.le_antisymm c2 (Int32.not_lt.mp c)
    · rw [if_neg c2]
theorem gA_keep {σ σ' : zS} {ci k q x : Nat} (h : gA σ ci k q = some x) (e : σ' q = σ q) : gA σ' ci k q = some x := by
  unfold gA at h ⊢
  rw [e]
  exact h
theorem op_both {N : Nat} {σ : zS} {b M n len : Nat} {s : AS} {H : Nat → AS} {T : Nat → Int32} (hN : 7000 < N) (hb : b + 229 ≤ M) (hW : WH s n H T len) (hC : CR σ b s n H T len) (hR : MR σ M s n H T len) (v u w : Int32) : ∃ y σ1 σ', m_X8_both N σ b v u w = some (y, σ1) ∧ isO σ1 9 M = some () ∧ m_X9_both N σ1 M v u w = some (y, σ') ∧ CR σ' b s n H T len ∧ MR σ' M s n H T len := by
  have hws := hW.1
  have hM := hws.1
  have st := hC.2.1
  have nw0 := hR.nw
  unfold m_X8_both
  rcases tbl_cases s hM v with ⟨i, hi, rfl⟩ | hv
  · rcases tbl_cases s hM u with ⟨j, hj, rfl⟩ | hu
    · have ti := st.tb hi
      have tj := st.tb hj
      have hwi := hws.2.2.2 i hi
      have hwj := hws.2.2.2 j hj
      simp only [hC.o.2.1, Option.bind_some, st.o.1, st.find_in hM hi, st.find_in hM hj, Option.elim_some]
      rw [show (3 : Int32) = nI 3 from rfl]
      rcases wi_cases w 3 (by decide) with ⟨k, hk, rfl⟩ | hw
      · rw [X8_within_in (by decide) hk, Option.bind_some, if_neg ne10]
        have : k = 1 ∨ k = 3 ∨ (k = 0 ∨ k = 2) := by omega
        rcases this with rfl | rfl | hk02
        · rw [if_pos (by rfl), ti.o.1]
          unfold m_X5_sawEither
          have e3 : nI (cntG (sG s i)) + nI (cntG (sG s j)) - nI (nS (bothC (sG s i) (sG s j)) 1000 0) = nI (nS (eithC (sG s i) (sG s j)) 1000 0) := by
            have := cnt_both hws.2.1 hwi hwj
            rw [nI_add, pk_sub (by omega), show cntG (sG s i) + cntG (sG s j) - nS (bothC (sG s i) (sG s j)) 1000 0 = nS (eithC (sG s i) (sG s j)) 1000 0 by omega]
          simp only [ti.o.2.2.2.1, tj.o.2.2.2.1, Option.bind_some, ti.o.1, X5_sawToo (N := N) (by omega) hws.2.1 ti hwi tj hwj, hwi.2.1, hwj.2.1, e3]
          refine ⟨_, _, σ, rfl, nw0.1.o.1, ?_, hC, hR⟩
          unfold m_X9_both
          have sb := X9_seenByBoth (N := N) (k := 1) (by omega) nw0 hws hi hj (Or.inl rfl)
          rw [if_pos rfl] at sb
          rw [nw0.1.o.1, Option.bind_some, X9_isTable_in nw0 hM hi, Option.bind_some, if_neg ne10, Option.bind_some, X9_isTable_in nw0 hM hj, Option.bind_some, if_neg ne10, show (3 : Int32) = nI 3 from rfl, X9_in_in (by decide) hk, Option.bind_some, if_neg ne10, if_pos (by decide), if_pos (by rfl), Option.bind_some, Option.bind_some, show (1 : Int32) = nI 1 from rfl, sb, Option.bind_some]
        · rw [if_neg (by decide), if_pos (by rfl), ti.o.1]
          simp only [Option.bind_some, X5_sawToo (N := N) (by omega) hws.2.1 ti hwi tj hwj]
          refine ⟨_, _, σ, rfl, nw0.1.o.1, ?_, hC, hR⟩
          unfold m_X9_both
          have sb := X9_seenByBoth (N := N) (k := 2) (by omega) nw0 hws hi hj (Or.inr rfl)
          rw [if_neg (by decide)] at sb
          rw [nw0.1.o.1, Option.bind_some, X9_isTable_in nw0 hM hi, Option.bind_some, if_neg ne10, Option.bind_some, X9_isTable_in nw0 hM hj, Option.bind_some, if_neg ne10, show (3 : Int32) = nI 3 from rfl, X9_in_in (by decide) hk, Option.bind_some, if_neg ne10, if_pos (by decide), if_neg (by decide), Option.bind_some, Option.bind_some, show (2 : Int32) = nI 2 from rfl, sb, Option.bind_some]
        · have k1 : ¬ nI k = 1 := by rcases hk02 with rfl | rfl <;> decide
          have k3 : ¬ nI k = nI 3 := by rcases hk02 with rfl | rfl <;> decide
          have kr : ¬ irem (nI k) 2 = 1 := by rcases hk02 with rfl | rfl <;> decide
          rw [if_neg k1, if_neg k3]
          simp only [ti.o.2.1, tj.o.2.1, Option.bind_some, ti.o.2.2.2.2.2, X3_isLike ti.2.1 tj.2.1]
          by_cases al : sR s i 0 = sR s j 0 ∧ sR s i 1 = sR s j 1
          · rw [if_pos al, if_neg ne10]
            obtain ⟨r0, hr0⟩ := hC.2.2.2.2.2.2.2.2
            obtain ⟨σ1, a1, a2⟩ := X3_copyFrom (N := N) hr0 ti.2.1 (by omega)
            have tj1 : Tb σ1 (b + 1 + 6 + 5 * j) (sR s j) (sG s j) := tj.keep (fun x _ _ => a2.2 x (by omega))
            obtain ⟨σ2, b1, b2⟩ := X3_unite (N := N) (by omega) (by omega) a2.1 hwi.1.1 tj1.2.1 hwj.1.1
            have u2 := a2.trans b2
            have ti2 : Tb σ2 (b + 1 + 6 + 5 * i) (sR s i) (sG s i) := ti.keep (fun x _ _ => u2.2 x (by omega))
            have tj2 : Tb σ2 (b + 1 + 6 + 5 * j) (sR s j) (sG s j) := tj.keep (fun x _ _ => u2.2 x (by omega))
            have o1 : gA σ1 8 5 b = some (b + 226) := gA_keep hC.o.2.2.2.2.2.2 (a2.2 b (by omega))
            have o2 : gA σ2 8 5 b = some (b + 226) := gA_keep hC.o.2.2.2.2.2.2 (u2.2 b (by omega))
            have hun := WR_un hwi.1 hwj.1 al.1
            have hC2 : CR σ2 b s n H T len := hC.scr hW u2.2 u2.1
            have hR2 : MR σ2 M s n H T len := hR.keep (fun x _ _ => u2.2 x (by omega))
            have nw := hR2.nw
            obtain ⟨X, hX⟩ := hR2.hasmix
            obtain ⟨X', e1⟩ := X9_toldOfBoth (N := N) (by omega) nw hws hi hj al.1 hX
            have nw3 : Nw (zup σ2 (M + 7) (.inl (1, 23, .inl X'))) M s := nw.keep (zup_ne _ _ (by omega)) (zup_ne _ _ (by omega))
            have c3 : CR (zup σ2 (M + 7) (.inl (1, 23, .inl X'))) b s n H T len := hC2.keep hW (fun x _ _ => zup_ne _ _ (by omega))
            have m3 : MR (zup σ2 (M + 7) (.inl (1, 23, .inl X'))) M s n H T len := hR2.mix
            have ref : m_X9_both N σ2 M (nI i) (nI j) (nI k) = if nI k = 0 then some (nI (toldN (unR (sR s i) (sR s j))), zup σ2 (M + 7) (.inl (1, 23, .inl X'))) else if 0 ≤ nI (toldN (sR s i)) + nI (toldN (sR s j)) - nI (toldN (unR (sR s i) (sR s j))) then some (nI (toldN (sR s i)) + nI (toldN (sR s j)) - nI (toldN (unR (sR s i) (sR s j))), zup σ2 (M + 7) (.inl (1, 23, .inl X'))) else some (0, zup σ2 (M + 7) (.inl (1, 23, .inl X'))) := by
              unfold m_X9_both
              simp only [nw.1.o.1, Option.bind_some, X9_isTable_in nw hM hi, X9_isTable_in nw hM hj, if_neg ne10, show (3 : Int32) = nI 3 from rfl, X9_in_in (show 3 < 2 ^ 30 by decide) hk, if_neg kr, X9_areAlike nw hM hi hj, if_pos al, e1, b2_some, nw3.1.o.1, X9_toldOf (N := N) (by omega) nw3 hws hi, X9_toldOf (N := N) (by omega) nw3 hws hj]
            simp only [hC.o.2.2.2.2.2.2, Option.bind_some, hr0.fld.2.2.2.2.2.1, a1, o1, a2.1.fld.2.2.2.2.2.1, gA_keep tj.o.2.1 (a2.2 _ (by omega)), b1, o2, u2.1.fld.2.2.2.2.2.1, X3_told (N := N) (by omega) u2.1 hun.1, ti2.o.2.1, tj2.o.2.1, ti2.o.2.2.2.2.2, tj2.o.2.2.2.2.2, X3_told (N := N) (by omega) ti2.2.1 hwi.1.1, X3_told (N := N) (by omega) tj2.2.1 hwj.1.1, imax0]
            rcases hk02 with rfl | rfl
            · refine ⟨_, σ2, _, by rw [if_pos (by rfl)], nw.1.o.1, by rw [ref, if_pos (by rfl)], c3, m3⟩
            · refine ⟨_, σ2, _, by rw [if_neg (by decide)], nw.1.o.1, ?_, c3, m3⟩
              rw [ref, if_neg (by decide)]
              split <;> rfl
          · rw [if_neg al, if_pos rfl]
            refine ⟨_, _, σ, rfl, nw0.1.o.1, ?_, hC, hR⟩
            unfold m_X9_both
            simp only [nw0.1.o.1, Option.bind_some, X9_isTable_in nw0 hM hi, X9_isTable_in nw0 hM hj, if_neg ne10, show (3 : Int32) = nI 3 from rfl, X9_in_in (show 3 < 2 ^ 30 by decide) hk, if_neg kr, X9_areAlike nw0 hM hi hj, if_neg al, if_true]
      · rw [X8_within_out hw, Option.bind_some, if_pos rfl]
        refine ⟨_, _, σ, rfl, nw0.1.o.1, ?_, hC, hR⟩
        unfold m_X9_both
        simp only [nw0.1.o.1, Option.bind_some, X9_isTable_in nw0 hM hi, X9_isTable_in nw0 hM hj, if_neg ne10, show (3 : Int32) = nI 3 from rfl, X9_in_out hw, if_true]
    · simp only [hC.o.2.1, Option.bind_some, st.o.1, st.find_in hM hi, st.find_out hu, Option.elim_some, Option.elim_none]
      refine ⟨_, _, σ, rfl, nw0.1.o.1, ?_, hC, hR⟩
      unfold m_X9_both
      simp only [nw0.1.o.1, Option.bind_some, X9_isTable_in nw0 hM hi, X9_isTable_out nw0 hM hu, if_neg ne10, if_true]
  · have e9 : m_X9_both N σ M v u w = some (-1, σ) := by
      unfold m_X9_both
      simp only [nw0.1.o.1, Option.bind_some, X9_isTable_out nw0 hM hv, if_true]
    rcases tbl_cases s hM u with ⟨j, hj, rfl⟩ | hu
    · simp only [hC.o.2.1, Option.bind_some, st.o.1, st.find_in hM hj, st.find_out hv, Option.elim_some, Option.elim_none]
      exact ⟨_, _, σ, rfl, nw0.1.o.1, e9, hC, hR⟩
    · simp only [hC.o.2.1, Option.bind_some, st.o.1, st.find_out hu, st.find_out hv, Option.elim_none]
      exact ⟨_, _, σ, rfl, nw0.1.o.1, e9, hC, hR⟩
