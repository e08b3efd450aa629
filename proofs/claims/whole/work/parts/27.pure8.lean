/-! Pure, 8: counts, the order by errors -/
theorem dupE {x : Option Int32} (h : ∃ y, x = some y) : ∃ y, x = some y ∧ x = some y := h.elim fun y hy => ⟨y, hy, hy⟩
theorem X5_saw {N t : Nat} {σ : zS} {q x : Nat} {r g : Nat → Int32} (h : Tb σ q r g) (hw : WT t r g) (ht : t ≤ 20000) (hx : x < 1000) : m_X5_saw N σ q (nI x) = some (if g x = 0 then 0 else 1) := by
  unfold m_X5_saw m_X5_timeOf
  simp only [h.o.1, Option.bind_some, (thing_in hx).1, if_neg ne10, h.o.2.2.1, h.time hx]
  have tm := (hw.tm ht hx).1
  by_cases c : g x = 0
  · rw [if_pos c, if_pos (tm.mpr c)]
  · rw [if_neg c, if_neg (fun q => c (tm.mp q))]
def inC (s : AS) (x : Nat) (i : Nat) : Nat := if i < sM s then (if sG s i x = 0 then 0 else 1) else 0
def cT (s : AS) (x : Nat) : Nat := nS (inC s x) 6 0
theorem cT_le (s : AS) (x : Nat) : cT s x ≤ 6 := by
  have := nS_le (f := inC s x) (c := 1) 6 0 (fun i _ _ => by
    unfold inC
    split
    · split <;> omega
    · omega)
  unfold cT
  omega
theorem cT_M (s : AS) (hM : sM s ≤ 6) (x : Nat) : nS (inC s x) (sM s) 0 = cT s x := by
  unfold cT
  rw [show 6 = sM s + (6 - sM s) by omega, nS_split, nS_zero (6 - sM s) (0 + sM s) (fun i h1 _ => by unfold inC; rw [if_neg (by omega)])]
  rfl
theorem X4_tablesWithThing {N : Nat} {σ : zS} {a x : Nat} {s : AS} (hN : 50 < N) (h : St σ a s) (hW : WS s) (hx : x < 1000) : m_X4_tablesWithThing N σ a (nI x) = some (nI (cT s x)) := by
  unfold m_X4_tablesWithThing
  rw [show (0 : Int32) = nI 0 from rfl]
  have key := lsum (Lf := fun m v j => m_X4_tablesWithThing_L4 N m σ a (nI x) v j) (f := fun i => nI (inC s x i)) (e := 6) (lo := 0)
    (fun m v => by
      show m_X4_tablesWithThing_L4 N (m + 1) σ a (nI x) v (nI 6) = _
      rw [m_X4_tablesWithThing_L4, if_pos (by decide)])
    (fun m j v _ hj => by
      show m_X4_tablesWithThing_L4 N (m + 1) σ a (nI x) v (nI j) = m_X4_tablesWithThing_L4 N m σ a (nI x) _ (nI (j + 1))
      rw [m_X4_tablesWithThing_L4, if_neg (litge 6 hj (by decide)), h.o.1, Option.bind_some]
      unfold inC
      by_cases c : j < sM s
      · rw [h.find_in hW.1 c, Option.bind_some, Option.elim_some, (h.tb c).o.1, Option.bind_some, X5_saw (h.tb c) (hW.2.2.2 j c) hW.2.1 hx, Option.bind_some, if_pos c]
        by_cases c2 : sG s j x = 0
        · rw [if_pos c2, if_pos rfl, if_pos c2, Option.bind_some, Option.bind_some, nI_1, nI_0, Int32.add_zero]
        · rw [if_neg c2, if_neg ne10, if_neg c2, Option.bind_some, Option.bind_some, Option.bind_some, nI_1]
          rfl
      · rw [h.find_out (Or.inr (nI_le (by omega) (by omega))), Option.bind_some, Option.elim_none, Option.bind_some, nI_1, if_neg c, nI_0, Int32.add_zero])
    6 0 N (nI 0) (Nat.le_refl 0) rfl (by omega)
  rw [key, Option.bind_some, sS_nI, nI_add, Nat.zero_add]
  rfl
theorem X9_seenBy_T {N : Nat} {σ : zS} {M x : Nat} {s : AS} {u w : Int32} (hN : 50 < N) (h : Nw σ M s) (hW : WS s) (hx : x < 1000) : m_X9_seenBy_L17 N N σ M u w (nI x) 0 0 = some (nI (cT s x)) := by
  have h138 : aI 1 σ (M + 1) 138 = some (nI (sM s)) := by
    obtain ⟨nb, F, nF, fr⟩ := h
    rw [aI_at nF (show (138 : Int32) = nI 138 from rfl) (by decide) (by decide), fr.1]
  have hM := hW.1
  have key := lsum (Lf := fun m v j => m_X9_seenBy_L17 N m σ M u w (nI x) v j) (f := fun i => nI (inC s x i)) (e := sM s) (lo := 0)
    (fun m v => by
      show m_X9_seenBy_L17 N (m + 1) σ M u w (nI x) v (nI (sM s)) = _
      rw [m_X9_seenBy_L17, h.1.o.2.1, Option.bind_some, h138, Option.bind_some, if_pos (nI_le (Nat.le_refl _) (by omega))])
    (fun m j v _ hj => by
      show m_X9_seenBy_L17 N (m + 1) σ M u w (nI x) v (nI j) = m_X9_seenBy_L17 N m σ M u w (nI x) _ (nI (j + 1))
      have tm := ((hW.2.2.2 j hj).tm hW.2.1 hx).2
      rw [m_X9_seenBy_L17, h.1.o.2.1, Option.bind_some, h138, Option.bind_some, if_neg (nI_ge hj (by omega)), Option.bind_some, h.seen hM hj hx (by simp only [nlit, pk_mul, nI_add]), Option.bind_some]
      unfold inC
      rw [if_pos hj]
      by_cases c2 : sG s j x = 0
      · rw [if_pos (tm.mpr c2), if_pos c2, Option.bind_some, Option.bind_some, Option.bind_some, nI_1, nI_0]
      · rw [if_neg (fun q => c2 (tm.mp q)), if_neg c2, Option.bind_some, Option.bind_some, Option.bind_some, nI_1]
        rfl)
    (sM s) 0 N (nI 0) (Nat.le_refl 0) (Nat.zero_add _) (by omega)
  rw [show (0 : Int32) = nI 0 from rfl, key, sS_nI, nI_add, Nat.zero_add, cT_M s hM]
def anyC (s : AS) (x : Nat) : Nat := if cT s x = 0 then 0 else 1
def allC (s : AS) (x : Nat) : Nat := if cT s x = 0 then 0 else if cT s x = sM s then 1 else 0
theorem X4_any {N : Nat} {σ : zS} {a : Nat} {s : AS} (hN : 1050 < N) (h : St σ a s) (hW : WS s) : m_X4_thingsOfAny N σ a = some (nI (nS (anyC s) 1000 0)) := by
  unfold m_X4_thingsOfAny
  rw [show (0 : Int32) = nI 0 from rfl]
  have key := lsum (Lf := fun m v j => m_X4_thingsOfAny_L4 N m σ a v j) (f := fun x => nI (anyC s x)) (e := 1000) (lo := 0)
    (fun m v => by
      show m_X4_thingsOfAny_L4 N (m + 1) σ a v (nI 1000) = _
      rw [m_X4_thingsOfAny_L4, if_pos (by decide)])
    (fun m x v _ hx => by
      show m_X4_thingsOfAny_L4 N (m + 1) σ a v (nI x) = m_X4_thingsOfAny_L4 N m σ a _ (nI (x + 1))
      have hc := cT_le s x
      have tm := tm_eq (k := cT s x) (by omega)
      rw [m_X4_thingsOfAny_L4, if_neg (litge 1000 hx (by decide)), h.o.1, Option.bind_some, X4_tablesWithThing (by omega) h hW hx, Option.bind_some]
      unfold anyC
      by_cases c2 : cT s x = 0
      · rw [if_pos (tm.2.1.mpr c2), if_pos c2, Option.bind_some, Option.bind_some, nI_1, nI_0, Int32.add_zero]
      · rw [if_neg (fun q => c2 (tm.2.1.mp q)), if_neg c2, Option.bind_some, Option.bind_some, Option.bind_some, nI_1]
        rfl)
    1000 0 N (nI 0) (Nat.le_refl 0) rfl (by omega)
  rw [key, Option.bind_some, sS_nI, nI_add, Nat.zero_add]
theorem X4_all {N : Nat} {σ : zS} {a : Nat} {s : AS} (hN : 1050 < N) (h : St σ a s) (hW : WS s) : m_X4_thingsOfAll N σ a = some (nI (nS (allC s) 1000 0)) := by
  unfold m_X4_thingsOfAll
  have hM := hW.1
  rw [show (0 : Int32) = nI 0 from rfl]
  have key := lsum (Lf := fun m v j => m_X4_thingsOfAll_L4 N m σ a v j) (f := fun x => nI (allC s x)) (e := 1000) (lo := 0)
    (fun m v => by
      show m_X4_thingsOfAll_L4 N (m + 1) σ a v (nI 1000) = _
      rw [m_X4_thingsOfAll_L4, if_pos (by decide)])
    (fun m x v _ hx => by
      show m_X4_thingsOfAll_L4 N (m + 1) σ a v (nI x) = m_X4_thingsOfAll_L4 N m σ a _ (nI (x + 1))
      have hc := cT_le s x
      have tm := tm_eq (k := sM s) (by omega)
      rw [m_X4_thingsOfAll_L4, if_neg (litge 1000 hx (by decide)), h.o.2.2.2.1, Option.bind_some]
      unfold allC
      by_cases c1 : sM s = 0
      · have e0 : cT s x = 0 := by
          unfold cT
          exact nS_zero 6 0 (fun i _ _ => by unfold inC; rw [if_neg (by omega)])
        rw [if_pos (tm.2.1.mpr c1), if_pos e0, Option.bind_some, Option.bind_some, nI_1, nI_0, Int32.add_zero]
      · rw [if_neg (fun q => c1 (tm.2.1.mp q)), h.o.1, Option.bind_some, X4_tablesWithThing (by omega) h hW hx, Option.bind_some, Option.bind_some]
        by_cases c2 : cT s x = sM s
        · rw [if_pos (by rw [c2]), if_neg (by omega), if_pos c2, Option.bind_some, Option.bind_some, Option.bind_some, nI_1]
          rfl
        · rw [if_neg (by rw [nI_eq (by omega) (by omega)]; exact c2), if_neg c2, Option.bind_some, Option.bind_some, nI_1, show (if cT s x = 0 then 0 else 0) = 0 by split <;> rfl, nI_0, Int32.add_zero])
    1000 0 N (nI 0) (Nat.le_refl 0) rfl (by omega)
  rw [key, Option.bind_some, sS_nI, nI_add, Nat.zero_add]
theorem X9_any {N : Nat} {σ : zS} {M : Nat} {s : AS} (hN : 1050 < N) (h : Nw σ M s) (hW : WS s) : m_X9_seenBy N σ M 0 = some (nI (nS (anyC s) 1000 0)) := by
  unfold m_X9_seenBy
  have key := lsum (Lf := fun m v j => m_X9_seenBy_L4 N m σ M 0 v j) (f := fun x => nI (anyC s x)) (e := 1000) (lo := 0)
    (fun m v => by
      show m_X9_seenBy_L4 N (m + 1) σ M 0 v (nI 1000) = _
      rw [m_X9_seenBy_L4, if_pos (by decide)])
    (fun m x v _ hx => by
      show m_X9_seenBy_L4 N (m + 1) σ M 0 v (nI x) = m_X9_seenBy_L4 N m σ M 0 _ (nI (x + 1))
      have hc := cT_le s x
      have tm := tm_eq (k := cT s x) (by omega)
      rw [m_X9_seenBy_L4, if_neg (litge 1000 hx (by decide)), X9_seenBy_T (by omega) h hW hx, Option.bind_some]
      unfold anyC
      by_cases c2 : cT s x = 0
      · rw [if_pos (tm.2.1.mpr c2), if_pos c2, Option.bind_some, Option.bind_some, Option.bind_some, nI_1, nI_0]
      · rw [if_neg (fun q => c2 (tm.2.1.mp q)), if_neg c2, if_pos rfl, Option.bind_some, Option.bind_some, Option.bind_some, nI_1]
        rfl)
    1000 0 N (nI 0) (Nat.le_refl 0) rfl (by omega)
  rw [show m_X9_seenBy_L4 N N σ M 0 0 0 = m_X9_seenBy_L4 N N σ M 0 (nI 0) (nI 0) from rfl, key, Option.bind_some, sS_nI, nI_add, Nat.zero_add]
theorem X9_all {N : Nat} {σ : zS} {M : Nat} {s : AS} (hN : 1050 < N) (h : Nw σ M s) (hW : WS s) : m_X9_seenBy N σ M 1 = some (nI (nS (allC s) 1000 0)) := by
  unfold m_X9_seenBy
  have hM := hW.1
  have h138 : aI 1 σ (M + 1) 138 = some (nI (sM s)) := by
    obtain ⟨nb, F, nF, fr⟩ := h
    rw [aI_at nF (show (138 : Int32) = nI 138 from rfl) (by decide) (by decide), fr.1]
  have key := lsum (Lf := fun m v j => m_X9_seenBy_L4 N m σ M 1 v j) (f := fun x => nI (allC s x)) (e := 1000) (lo := 0)
    (fun m v => by
      show m_X9_seenBy_L4 N (m + 1) σ M 1 v (nI 1000) = _
      rw [m_X9_seenBy_L4, if_pos (by decide)])
    (fun m x v _ hx => by
      show m_X9_seenBy_L4 N (m + 1) σ M 1 v (nI x) = m_X9_seenBy_L4 N m σ M 1 _ (nI (x + 1))
      have hc := cT_le s x
      have tm := tm_eq (k := cT s x) (by omega)
      rw [m_X9_seenBy_L4, if_neg (litge 1000 hx (by decide)), X9_seenBy_T (by omega) h hW hx, Option.bind_some]
      unfold allC
      by_cases c2 : cT s x = 0
      · rw [if_pos (tm.2.1.mpr c2), if_pos c2, Option.bind_some, Option.bind_some, Option.bind_some, nI_1, nI_0]
      · rw [if_neg (fun q => c2 (tm.2.1.mp q)), if_neg c2, if_neg ne10, h.1.o.2.1, Option.bind_some, h138, Option.bind_some]
        by_cases c3 : cT s x = sM s
        · rw [if_pos (by rw [c3]), if_pos c3, Option.bind_some, Option.bind_some, Option.bind_some, nI_1]
          rfl
        · rw [if_neg (by rw [nI_eq (by omega) (by omega)]; exact c3), if_neg c3, Option.bind_some, Option.bind_some, Option.bind_some, nI_1]
          rfl)
    1000 0 N (nI 0) (Nat.le_refl 0) rfl (by omega)
  rw [show m_X9_seenBy_L4 N N σ M 1 0 0 = m_X9_seenBy_L4 N N σ M 1 (nI 0) (nI 0) from rfl, key, Option.bind_some, sS_nI, nI_add, Nat.zero_add]
def ritC (s : AS) (i : Nat) : Nat := if i < sM s then (if errI (sR s i) = 0 then 1 else 0) else 0
theorem X4_right {N : Nat} {σ : zS} {a : Nat} {s : AS} (hN : 1050 < N) (h : St σ a s) (hW : WS s) : m_X4_tablesWithoutError N σ a = some (nI (nS (ritC s) 6 0)) := by
  unfold m_X4_tablesWithoutError
  rw [show m_X4_tablesWithoutError_L4 N N σ a 0 0 = m_X4_tablesWithoutError_L4 N N σ a (nI 0) (nI 0) from rfl]
  have key := lsum (Lf := fun m v j => m_X4_tablesWithoutError_L4 N m σ a v j) (f := fun i => nI (ritC s i)) (e := 6) (lo := 0)
    (fun m v => by
      show m_X4_tablesWithoutError_L4 N (m + 1) σ a v (nI 6) = _
      rw [m_X4_tablesWithoutError_L4, if_pos (by decide)])
    (fun m j v _ hj => by
      show m_X4_tablesWithoutError_L4 N (m + 1) σ a v (nI j) = m_X4_tablesWithoutError_L4 N m σ a _ (nI (j + 1))
      rw [m_X4_tablesWithoutError_L4, if_neg (litge 6 hj (by decide)), h.o.1, Option.bind_some]
      unfold ritC
      by_cases c : j < sM s
      · rw [h.find_in hW.1 c, Option.bind_some, Option.elim_some, (h.tb c).o.1, Option.bind_some, X5_error (by omega) (h.tb c) (hW.2.2.2 j c).1, Option.bind_some, if_pos c]
        by_cases c2 : errI (sR s j) = 0
        · rw [if_pos c2, if_pos c2, Option.bind_some, Option.bind_some, Option.bind_some, nI_1]
          rfl
        · rw [if_neg c2, if_neg c2, Option.bind_some, Option.bind_some, nI_1, nI_0, Int32.add_zero]
      · rw [h.find_out (Or.inr (nI_le (by omega) (by omega))), Option.bind_some, Option.elim_none, Option.bind_some, nI_1, if_neg c, nI_0, Int32.add_zero])
    6 0 N (nI 0) (Nat.le_refl 0) rfl (by omega)
  rw [key, Option.bind_some, sS_nI, nI_add, Nat.zero_add]
theorem X9_right {N : Nat} {σ : zS} {M : Nat} {s : AS} (hN : 1050 < N) (h : Nw σ M s) (hW : WS s) : m_X9_rightOnes N σ M = some (nI (nS (ritC s) 6 0)) := by
  unfold m_X9_rightOnes
  have hM := hW.1
  have h138 : aI 1 σ (M + 1) 138 = some (nI (sM s)) := by
    obtain ⟨nb, F, nF, fr⟩ := h
    rw [aI_at nF (show (138 : Int32) = nI 138 from rfl) (by decide) (by decide), fr.1]
  have key := lsum (Lf := fun m v j => m_X9_rightOnes_L4 N m σ M v j) (f := fun i => nI (ritC s i)) (e := sM s) (lo := 0)
    (fun m v => by
      show m_X9_rightOnes_L4 N (m + 1) σ M v (nI (sM s)) = _
      rw [m_X9_rightOnes_L4, h.1.o.2.1, Option.bind_some, h138, Option.bind_some, if_pos (nI_le (Nat.le_refl _) (by omega))])
    (fun m j v _ hj => by
      show m_X9_rightOnes_L4 N (m + 1) σ M v (nI j) = m_X9_rightOnes_L4 N m σ M _ (nI (j + 1))
      rw [m_X9_rightOnes_L4, h.1.o.2.1, Option.bind_some, h138, Option.bind_some, if_neg (nI_ge hj (by omega)), h.1.o.1, Option.bind_some, X9_error (by omega) h hW hj, Option.bind_some]
      unfold ritC
      rw [if_pos hj]
      by_cases c2 : errI (sR s j) = 0
      · rw [if_pos c2, if_pos c2, Option.bind_some, Option.bind_some, Option.bind_some, nI_1]
        rfl
      · rw [if_neg c2, if_neg c2, Option.bind_some, Option.bind_some, Option.bind_some, nI_1, nI_0])
    (sM s) 0 N (nI 0) (Nat.le_refl 0) (Nat.zero_add _) (by omega)
  rw [show m_X9_rightOnes_L4 N N σ M 0 0 = m_X9_rightOnes_L4 N N σ M (nI 0) (nI 0) from rfl, key, Option.bind_some, sS_nI, nI_add, Nat.zero_add]
  congr 2
  rw [show 6 = sM s + (6 - sM s) by omega, nS_split, nS_zero (6 - sM s) (0 + sM s) (fun i h1 _ => by unfold ritC; rw [if_neg (by omega)])]
  rfl
theorem op_count {N : Nat} {σ : zS} {b M n len : Nat} {s : AS} {H : Nat → AS} {T : Nat → Int32} (hN : 7000 < N) (hW : WH s n H T len) (hC : CR σ b s n H T len) (hR : MR σ M s n H T len) (v : Int32) : ∃ y, m_X8_count N σ b v = some y ∧ m_X9_count N σ M v = some y := by
  have hws := hW.1
  have st := hC.2.1
  have nw := hR.nw
  have e2 := X4_any (N := N) (by omega) st hws
  have e3 := X4_all (N := N) (by omega) st hws
  have e5 := X4_right (N := N) (by omega) st hws
  have f2 := X9_any (N := N) (by omega) nw hws
  have f3 := X9_all (N := N) (by omega) nw hws
  have f5 := X9_right (N := N) (by omega) nw hws
  obtain ⟨nb, F, nF, fr⟩ := nw
  obtain ⟨first, at_, ok, re, ca, m0, m1, -⟩ := hR
  have g6 := gI_at (k := 7) (x := nI n) m1 rfl
  have g7 := gI_at (k := 10) (x := nI len) m1 rfl
  have a0 := aI_at nF (show (138 : Int32) = nI 138 from rfl) (by decide) (by decide)
  have a1 := aI_at nF (show (139 : Int32) = nI 139 from rfl) (by decide) (by decide)
  have a4 := aI_at nF (show (140 : Int32) = nI 140 from rfl) (by decide) (by decide)
  rw [fr.1] at a0
  rw [fr.2.1] at a1
  rw [fr.2.2.1] at a4
  have hi := gI_at (k := 1) (x := nI n) hC.2.2.1.1 rfl
  have ht := gI_at (k := 1) (x := nI len) hC.2.2.2.1.1 rfl
  have hl := gI_at (k := 0) (x := nI (sL s)) st.2.2.1.1 rfl
  unfold m_X8_count m_X9_count
  simp only [hC.o.2.1, hC.o.2.2.1, hC.o.2.2.2.1, nb.o.1, nb.o.2.1, st.o.1, st.o.2.2.1, st.o.2.2.2.1, st.o.2.2.2.2, Option.bind_some, e2, e3, e5, f2, f3, f5, g6, g7, a0, a1, a4, hi, ht, hl]
  refine dupE ?_
  repeat' split
  all_goals exact ⟨_, rfl⟩
/-- how many are ahead of a table by their errors -/
def abI (x : Int32) : Int32 := if 0 ≤ x then x else 0 - x
def pbF (s : AS) (i j : Nat) : Int32 := if abI (errI (sR s i)) < abI (errI (sR s j)) then 1 else if abI (errI (sR s j)) = abI (errI (sR s i)) then (if nI i ≤ nI j then 0 else 1) else 0
theorem X9_amount {N : Nat} {σ : zS} {M i : Nat} {s : AS} (hN : 50 < N) (h : Nw σ M s) (hW : WS s) (hi : i < sM s) : m_X9_amount N σ M (nI i) = some (abI (errI (sR s i))) := by
  unfold m_X9_amount abI
  rw [h.1.o.1, Option.bind_some, X9_error hN h hW hi, Option.bind_some]
  by_cases c : 0 ≤ errI (sR s i)
  · rw [if_pos c, if_pos c]
  · rw [if_neg c, if_neg c, Int32.zero_sub]
theorem X4_errorSize {N : Nat} {σ : zS} {a i : Nat} {s : AS} (hN : 50 < N) (h : St σ a s) (hW : WS s) (hi : i < sM s) : m_X4_errorSize N σ a (nI i) = some (abI (errI (sR s i))) := by
  unfold m_X4_errorSize
  rw [h.o.1, Option.bind_some, h.find_in hW.1 hi, Option.bind_some, Option.elim_some, (h.tb hi).o.1, Option.bind_some, X5_error hN (h.tb hi) (hW.2.2.2 i hi).1, Option.bind_some]
  rfl
theorem X4_place {N : Nat} {σ : zS} {a i : Nat} {s : AS} (hN : 50 < N) (h : St σ a s) (hW : WS s) (hi : i < sM s) : m_X4_placeByError N σ a (nI i) = some (nI 0 + sS (pbF s i) (sM s) 0) := by
  unfold m_X4_placeByError
  have hM := hW.1
  rw [h.o.1, Option.bind_some, X4_errorSize hN h hW hi, Option.bind_some, show m_X4_placeByError_L11 N N σ a (nI i) (abI (errI (sR s i))) 0 0 = m_X4_placeByError_L11 N N σ a (nI i) (abI (errI (sR s i))) (nI 0) (nI 0) from rfl]
  have key := lsum (Lf := fun m v j => m_X4_placeByError_L11 N m σ a (nI i) (abI (errI (sR s i))) v j) (f := pbF s i) (e := sM s) (lo := 0)
    (fun m v => by
      show m_X4_placeByError_L11 N (m + 1) σ a (nI i) _ v (nI (sM s)) = _
      rw [m_X4_placeByError_L11, h.o.2.2.2.1, Option.bind_some, if_pos (nI_le (Nat.le_refl _) (by omega))])
    (fun m j v _ hj => by
      show m_X4_placeByError_L11 N (m + 1) σ a (nI i) _ v (nI j) = m_X4_placeByError_L11 N m σ a (nI i) _ _ (nI (j + 1))
      rw [m_X4_placeByError_L11, h.o.2.2.2.1, Option.bind_some, if_neg (nI_ge hj (by omega)), h.o.1, Option.bind_some, X4_errorSize hN h hW hj, Option.bind_some]
      unfold pbF
      by_cases c1 : abI (errI (sR s i)) < abI (errI (sR s j))
      · rw [if_pos c1, if_pos c1, Option.bind_some, Option.bind_some, Option.bind_some, nI_1]
      · rw [if_neg c1, if_neg c1]
        by_cases c2 : abI (errI (sR s j)) = abI (errI (sR s i))
        · rw [if_pos c2, if_pos c2]
          by_cases c3 : nI i ≤ nI j
          · rw [if_pos c3, if_pos c3, Option.bind_some, Option.bind_some, nI_1, Int32.add_zero]
          · rw [if_neg c3, if_neg c3, Option.bind_some, Option.bind_some, Option.bind_some, nI_1]
        · rw [if_neg c2, if_neg c2, Option.bind_some, Option.bind_some, nI_1, Int32.add_zero])
    (sM s) 0 N (nI 0) (Nat.le_refl 0) (Nat.zero_add _) (by omega)
  rw [key, Option.bind_some]
theorem X9_place' {N : Nat} {σ : zS} {M i : Nat} {s : AS} {u : Int32} (hN : 50 < N) (h : Nw σ M s) (hW : WS s) (hi : i < sM s) : m_X9_byError_L25 N N σ M u (nI i) 0 0 = some (nI 0 + sS (pbF s i) (sM s) 0) := by
  have hM := hW.1
  have h138 : aI 1 σ (M + 1) 138 = some (nI (sM s)) := by
    obtain ⟨nb, F, nF, fr⟩ := h
    rw [aI_at nF (show (138 : Int32) = nI 138 from rfl) (by decide) (by decide), fr.1]
  rw [show m_X9_byError_L25 N N σ M u (nI i) 0 0 = m_X9_byError_L25 N N σ M u (nI i) (nI 0) (nI 0) from rfl]
  exact lsum (Lf := fun m v j => m_X9_byError_L25 N m σ M u (nI i) v j) (f := pbF s i) (e := sM s) (lo := 0)
    (fun m v => by
      show m_X9_byError_L25 N (m + 1) σ M u (nI i) v (nI (sM s)) = _
      rw [m_X9_byError_L25, h.1.o.2.1, Option.bind_some, h138, Option.bind_some, if_pos (nI_le (Nat.le_refl _) (by omega))])
    (fun m j v _ hj => by
      show m_X9_byError_L25 N (m + 1) σ M u (nI i) v (nI j) = m_X9_byError_L25 N m σ M u (nI i) _ (nI (j + 1))
      simp only [m_X9_byError_L25, h.1.o.2.1, Option.bind_some, h138, if_neg (nI_ge hj (show sM s < 2 ^ 31 by omega)), h.1.o.1, X9_amount hN h hW hj, X9_amount hN h hW hi]
      unfold pbF
      by_cases c1 : abI (errI (sR s i)) < abI (errI (sR s j))
      · rw [if_pos c1, if_pos c1, Option.bind_some, nI_1]
      · rw [if_neg c1, if_neg c1]
        by_cases c2 : abI (errI (sR s j)) = abI (errI (sR s i))
        · rw [if_pos c2, if_pos c2]
          by_cases c3 : nI i ≤ nI j
          · rw [if_pos c3, if_pos c3, Option.bind_some, nI_1]
          · rw [if_neg c3, if_neg c3, Option.bind_some, nI_1]
        · rw [if_neg c2, if_neg c2, Option.bind_some, nI_1])
    (sM s) 0 N (nI 0) (Nat.le_refl 0) (Nat.zero_add _) (by omega)
def fbS (s : AS) (v : Int32) : Nat → Nat → Option Nat
  | 0, _ => none
  | d + 1, i => if nI 0 + sS (pbF s i) (sM s) 0 = v then some i else fbS s v d (i + 1)
theorem op_byError {N : Nat} {σ : zS} {b M n len : Nat} {s : AS} {H : Nat → AS} {T : Nat → Int32} (hN : 7000 < N) (hW : WH s n H T len) (hC : CR σ b s n H T len) (hR : MR σ M s n H T len) (v : Int32) : ∃ y, m_X8_byError N σ b v = some y ∧ m_X9_byError N σ M v = some y := by
  have hws := hW.1
  have hM := hws.1
  have st := hC.2.1
  have nw := hR.nw
  have h138 : aI 1 σ (M + 1) 138 = some (nI (sM s)) := by
    obtain ⟨nb, F, nF, fr⟩ := nw
    rw [aI_at nF (show (138 : Int32) = nI 138 from rfl) (by decide) (by decide), fr.1]
  have e1 : ∀ d i n, i + d = sM s → d < n → m_X8_byError_L8 N n σ b v (nI i) = some (match fbS s v d i with | some y => .inl (nI y) | none => .inr ()) := by
    intro d
    induction d with
    | zero =>
      intro i n hi hn
      obtain ⟨n, rfl⟩ : ∃ m, n = m + 1 := ⟨n - 1, by omega⟩
      rw [m_X8_byError_L8, hC.o.2.1, Option.bind_some, st.o.2.2.2.1, Option.bind_some, if_pos (nI_le (by omega) (by omega))]
      rfl
    | succ d ih =>
      intro i n hi hn
      obtain ⟨n, rfl⟩ : ∃ m, n = m + 1 := ⟨n - 1, by omega⟩
      rw [m_X8_byError_L8, hC.o.2.1, Option.bind_some, st.o.2.2.2.1, Option.bind_some, if_neg (nI_ge (by omega) (by omega)), Option.bind_some, st.o.1, Option.bind_some, X4_place (by omega) st hws (by omega), Option.bind_some, fbS]
      by_cases c : nI 0 + sS (pbF s i) (sM s) 0 = v
      · rw [if_pos c, if_pos c]
      · rw [if_neg c, if_neg c, Option.bind_some, nI_1, ih (i + 1) n (by omega) (by omega)]
  have e2 : ∀ d i n, i + d = sM s → d < n → m_X9_byError_L8 N n σ M v (nI i) = some (match fbS s v d i with | some y => .inl (nI y) | none => .inr ()) := by
    intro d
    induction d with
    | zero =>
      intro i n hi hn
      obtain ⟨n, rfl⟩ : ∃ m, n = m + 1 := ⟨n - 1, by omega⟩
      rw [m_X9_byError_L8, nw.1.o.2.1, Option.bind_some, h138, Option.bind_some, if_pos (nI_le (by omega) (by omega))]
      rfl
    | succ d ih =>
      intro i n hi hn
      obtain ⟨n, rfl⟩ : ∃ m, n = m + 1 := ⟨n - 1, by omega⟩
      rw [m_X9_byError_L8, nw.1.o.2.1, Option.bind_some, h138, Option.bind_some, if_neg (nI_ge (by omega) (by omega)), X9_place' (by omega) nw hws (by omega), Option.bind_some, fbS]
      by_cases c : nI 0 + sS (pbF s i) (sM s) 0 = v
      · rw [if_pos c, if_pos c]
      · rw [if_neg c, if_neg c, Option.bind_some, nI_1, ih (i + 1) n (by omega) (by omega)]
  unfold m_X8_byError m_X9_byError
  by_cases c : 0 ≤ v
  · rw [if_pos c, if_pos c, show (0 : Int32) = nI 0 from rfl, e1 (sM s) 0 N (Nat.zero_add _) (by omega), e2 (sM s) 0 N (Nat.zero_add _) (by omega)]
    cases fbS s v (sM s) 0 with
    | none => exact ⟨_, rfl, rfl⟩
    | some x => exact ⟨_, rfl, rfl⟩
  · rw [if_neg c, if_neg c]
    exact ⟨_, rfl, rfl⟩
