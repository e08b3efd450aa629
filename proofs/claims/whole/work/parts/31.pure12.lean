/-! Pure, 12: a row of things -/
def setT (s : AS) (t i : Nat) (r g : Nat → Int32) : AS := (sM s, t, sL s, fun k => if k = i then r else sR s k, fun k => if k = i then g else sG s k, sK s)
theorem setT_R (s : AS) (t i : Nat) (r g : Nat → Int32) : sR (setT s t i r g) i = r := if_pos rfl
theorem setT_G (s : AS) (t i : Nat) (r g : Nat → Int32) : sG (setT s t i r g) i = g := if_pos rfl
theorem setT_R' (s : AS) (t i : Nat) (r g : Nat → Int32) {k : Nat} (h : k ≠ i) : sR (setT s t i r g) k = sR s k := if_neg h
theorem setT_G' (s : AS) (t i : Nat) (r g : Nat → Int32) {k : Nat} (h : k ≠ i) : sG (setT s t i r g) k = sG s k := if_neg h
theorem WT.mono {t t' : Nat} {r g : Nat → Int32} (h : WT t r g) (ht : t ≤ t') : WT t' r g := ⟨h.1, h.2.1, fun x hx => by
  obtain ⟨k, hk, e⟩ := h.2.2 x hx
  exact ⟨k, by omega, e⟩⟩
theorem WS.put {s : AS} {t i : Nat} {r g : Nat → Int32} (h : WS s) (ht : sT s ≤ t) (ht2 : t ≤ 20000) (hw : WT t r g) : WS (setT s t i r g) := ⟨h.1, ht2, h.2.2.1, fun k hk => by
  by_cases c : k = i
  · subst c
    rw [setT_R, setT_G]
    exact hw
  · rw [setT_R' _ _ _ _ _ c, setT_G' _ _ _ _ _ c]
    exact (h.2.2.2 k hk).mono ht⟩
theorem St.put {σ σ' : zS} {a i : Nat} {s : AS} {r g : Nat → Int32} (hM : sM s ≤ 6) (hi : i < sM s) (h : St σ a s) (hk : ∀ x, (x < a + 6 + 5 * i ∨ a + 6 + 5 * i + 5 ≤ x) → σ' x = σ x) (ht : Tb σ' (a + 6 + 5 * i) r g) : St σ' a (setT s (sT s) i r g) := by
  obtain ⟨h1, ⟨f, h2, h3⟩, h4, h5, h6⟩ := h
  refine ⟨by rw [hk _ (by omega)]; exact h1, ⟨f, by rw [hk _ (by omega)]; exact h2, h3⟩, h4.keep (fun x _ _ => hk x (by omega)), fun k hk6 => ?_, fun k hkM => ?_⟩
  · by_cases c : k = i
    · subst c
      exact ⟨r, g, ht⟩
    · obtain ⟨r0, g0, h0⟩ := h5 k hk6
      exact ⟨r0, g0, h0.keep (fun x _ _ => hk x (by omega))⟩
  · by_cases c : k = i
    · subst c
      rw [setT_R, setT_G]
      exact ht
    · rw [setT_R' _ _ _ _ _ c, setT_G' _ _ _ _ _ c]
      exact (h6 k hkM).keep (fun x _ _ => hk x (by omega))
theorem St.time {σ : zS} {a i t : Nat} {s : AS} {r g : Nat → Int32} (hM : sM s ≤ 6) (h : St σ a (setT s (sT s) i r g)) : ∃ σ', sI σ 4 3 a (nI t) = some σ' ∧ St σ' a (setT s t i r g) ∧ ∀ x, x ≠ a → σ' x = σ x := by
  obtain ⟨h1, ⟨f, h2, h3⟩, h4, h5, h6⟩ := h
  rw [sI_at h1 (Nat.le_of_ble_eq_true rfl)]
  refine ⟨_, rfl, ⟨by rw [zup_same]; rfl, ⟨f, by rw [zup_ne _ _ (by omega)]; exact h2, h3⟩, h4.keep (fun x _ _ => zup_ne _ _ (by omega)), fun k hk6 => ?_, fun k hkM => ?_⟩, fun x hx => zup_ne _ _ hx⟩
  · obtain ⟨r0, g0, h0⟩ := h5 k hk6
    exact ⟨r0, g0, h0.keep (fun x _ _ => zup_ne _ _ (by omega))⟩
  · exact (h6 k hkM).keep (fun x _ _ => zup_ne _ _ (by omega))
theorem FR.put {F F' : Nat → Int32} {s : AS} {t i : Nat} {r g : Nat → Int32} (hM : sM s ≤ 6) (hL : sL s ≤ 8) (hi : i < sM s) (h : FR F s) (hr : ∀ j, j < 23 → F' (23 * i + j) = r j) (hg : ∀ x, x < 1000 → F' (165 + 1000 * i + x) = g x) (ht : F' 139 = nI t) (ho : ∀ y, y < 6165 → y ≠ 139 → (y < 23 * i ∨ 23 * i + 23 ≤ y) → (y < 165 + 1000 * i ∨ 165 + 1000 * i + 1000 ≤ y) → F' y = F y) : FR F' (setT s t i r g) := by
  obtain ⟨h1, h2, h3, h4, h5⟩ := h
  refine ⟨by rw [ho 138 (by omega) (by omega) (by omega) (by omega)]; exact h1, ht, by rw [ho 140 (by omega) (by omega) (by omega) (by omega)]; exact h3, fun k hk => ?_, fun k hk w hw => ?_⟩
  · have hk' : k < sM s := hk
    by_cases c : k = i
    · subst c
      rw [setT_R, setT_G]
      exact ⟨hr, hg⟩
    · rw [setT_R' _ _ _ _ _ c, setT_G' _ _ _ _ _ c]
      exact ⟨fun j hj => by rw [ho _ (by omega) (by omega) (by omega) (by omega)]; exact (h4 k hk').1 j hj, fun x hx => by rw [ho _ (by omega) (by omega) (by omega) (by omega)]; exact (h4 k hk').2 x hx⟩
  · have hk' : k < sL s := hk
    show F' (141 + 3 * (sL s - 1 - k) + w) = sK s k w
    rw [ho _ (by omega) (by omega) (by omega) (by omega)]
    exact h5 k hk' w hw
-- what is known
def mnG (a v : Int32) : Int32 := if a = 0 then v else if v ≤ 0 then a else if a ≤ v then a else v
def knG (g : Nat → Int32) (x : Nat) (v : Int32) : Nat → Int32 := fun y => if y = x then mnG (g x) v else g y
def knR (r : Nat → Int32) (a v : Int32) : Nat → Int32 := fun j => if j = 22 then (if a = 0 then (if v ≤ 0 then r 22 else r 22 + 1) else r 22) else r j
theorem nS_chg {f f' : Nat → Nat} {i c : Nat} (hi : f' i = f i + c) (h : ∀ x, x ≠ i → f' x = f x) : ∀ d j, j ≤ i → i < j + d → nS f' d j = nS f d j + c
  | 0, j, h1, h2 => by omega
  | d + 1, j, h1, h2 => by
    rw [nS, nS]
    by_cases e : j = i
    · subst e
      rw [nS_cong (f := f') (g := f) d (j + 1) (fun x h1 _ => h x (by omega)), hi]
      omega
    · rw [nS_chg hi h d (j + 1) (by omega) (by omega), h j e]
      omega
theorem lowN_cong {r r' : Nat → Int32} (e : ∀ j, j < 22 → r j = r' j) : lowN r = lowN r' := by
  have : fcN r = fcN r' := nS_cong 8 0 (fun i _ hi => by rw [e (14 + i) (by omega)])
  unfold lowN ktN
  rw [this, e 0 (by omega), e 4 (by omega), e 5 (by omega)]
theorem WR.cong {r r' : Nat → Int32} (h : WR r) (e : ∀ j, j < 22 → r j = r' j) : WR r' := ⟨h.1.cong e, by rw [← lowN_cong e, ← e 2 (by omega)]; exact h.2⟩
theorem WT.kn {t x k : Nat} {r g : Nat → Int32} {v : Int32} (h : WT t r g) (ht : t ≤ 20000) (hx : x < 1000) (hv : v = nI k) (hk : k ≤ t) : WT t (knR r (g x) v) (knG g x v) := by
  obtain ⟨h1, h2, h3⟩ := h
  obtain ⟨m, hm, e⟩ := h3 x hx
  have tm := tm_eq (k := m) (by omega)
  have tk := tm_eq (k := k) (by omega)
  have mn : ∃ u, u ≤ t ∧ mnG (g x) v = nI u ∧ (u = 0 ↔ (m = 0 ∧ k = 0)) := by
    unfold mnG
    rw [e, hv]
    by_cases c : m = 0
    · rw [if_pos (tm.2.2.mpr c)]
      exact ⟨k, hk, rfl, fun q => ⟨c, q⟩, fun q => q.2⟩
    · rw [if_neg (fun q => c (tm.2.2.mp q))]
      by_cases c2 : k = 0
      · rw [if_pos (tk.2.1.mpr c2)]
        exact ⟨m, hm, rfl, fun q => ⟨q, c2⟩, fun q => q.1⟩
      · rw [if_neg (fun q => c2 (tk.2.1.mp q))]
        by_cases c3 : nI m ≤ nI k
        · rw [if_pos c3]
          exact ⟨m, hm, rfl, fun q => absurd q c, fun q => q.1⟩
        · rw [if_neg c3]
          exact ⟨k, hk, rfl, fun q => absurd q c2, fun q => q.2⟩
  obtain ⟨u, hu, eu, hu0⟩ := mn
  rw [hv] at eu
  have tu := tm_eq (k := u) (by omega)
  refine ⟨h1.cong (fun j hj => (if_neg (by omega)).symm), ?_, fun y hy => ?_⟩
  · unfold knR
    rw [if_pos rfl, e, hv]
    by_cases c : m = 0
    · rw [if_pos (tm.2.2.mpr c)]
      by_cases c2 : k = 0
      · rw [if_pos (tk.2.1.mpr c2), h2]
        refine congrArg nI (nS_cong 1000 0 (fun y _ _ => ?_))
        unfold knG
        by_cases cy : y = x
        · rw [if_pos cy, cy, eu, e, hu0.mpr ⟨c, c2⟩, c]
        · rw [if_neg cy]
      · rw [if_neg (fun q => c2 (tk.2.1.mp q)), h2, nI_1]
        refine congrArg nI (nS_chg (i := x) (c := 1) ?_ ?_ 1000 0 (by omega) (by omega)).symm
        · unfold knG
          rw [if_pos rfl, eu, e, if_neg (fun q => c2 (hu0.mp (tu.2.1.mp q)).2), if_pos (tm.2.1.mpr c)]
        · intro y hy
          unfold knG
          rw [if_neg hy]
    · rw [if_neg (fun q => c (tm.2.2.mp q)), h2]
      refine congrArg nI (nS_cong 1000 0 (fun y _ _ => ?_))
      unfold knG
      by_cases cy : y = x
      · rw [if_pos cy, cy, eu, e, if_neg (fun q => c (tm.2.1.mp q)), if_neg (fun q => c (hu0.mp (tu.2.1.mp q)).1)]
      · rw [if_neg cy]
  · unfold knG
    by_cases cy : y = x
    · rw [if_pos cy, hv]
      exact ⟨u, hu, eu⟩
    · rw [if_neg cy]
      exact h3 y hy
theorem X5_know {N t x u : Nat} {σ : zS} {q : Nat} {r g : Nat → Int32} (h : Tb σ q r g) (hw : ∃ k, k ≤ 20000 ∧ g x = nI k) (hx : x < 1000) (hu : u ≤ 20000) : ∃ σ', m_X5_know N σ q (nI x) (nI u) = some σ' ∧ Tb σ' q (knR r (g x) (nI (u + 1))) (knG g x (nI (u + 1))) ∧ ∀ y, (y < q ∨ q + 5 ≤ y) → σ' y = σ y := by
  obtain ⟨k, hk, e⟩ := hw
  have tm := tm_eq (k := k) (by omega)
  have o := h.o
  have ht := h.time hx
  have hv0 : ¬ nI (u + 1) ≤ 0 := nI_nle (by omega) (by omega)
  have hS : Sk σ (q + 1) (knR r (nI k) (nI (u + 1))) := h.2.1.cong (fun j hj => (if_neg (by omega)).symm)
  obtain ⟨h1, h2, f, h3, h4⟩ := h
  unfold m_X5_know
  rw [(thing_in hx).1, Option.bind_some, if_neg ne10, o.2.2.1, Option.bind_some, ht, Option.bind_some, e]
  by_cases c : k = 0
  · rw [if_pos (tm.1.mpr c), Option.bind_some, uI_at h3 rfl hx (by decide), Option.bind_some, gI_at (show zup σ (q + 4) _ q = some _ by rw [zup_ne _ _ (by omega)]; exact h1) rfl, Option.bind_some, sI_at (show zup σ (q + 4) _ q = some _ by rw [zup_ne _ _ (by omega)]; exact h1) (Nat.le_of_ble_eq_true rfl), Option.bind_some]
    refine ⟨_, rfl, ⟨?_, hS.keep (fun y _ _ => by rw [zup_ne _ _ (by omega), zup_ne _ _ (by omega)]), upd f x (nI u), by rw [zup_ne _ _ (by omega), zup_same], fun y hy => ?_⟩, fun y hy => by rw [zup_ne _ _ (by omega), zup_ne _ _ (by omega)]⟩
    · rw [zup_same, show knR r (nI k) (nI (u + 1)) 22 = r 22 + 1 by unfold knR; rw [if_pos rfl, if_pos (tm.2.2.mpr c), if_neg hv0], show knR r (nI k) (nI (u + 1)) 3 = r 3 from if_neg (by decide)]
      rfl
    · unfold knG
      by_cases cy : y = x
      · rw [if_pos cy, cy, upd_same, e]
        unfold mnG
        rw [if_pos (tm.2.2.mpr c), show (1 : Int32) = nI 1 from rfl, pk_sub (by omega)]
        congr 1
      · rw [if_neg cy, upd_ne _ _ cy, h4 y hy]
  · rw [if_neg (fun q => c (tm.1.mp q))]
    simp only [o.2.2.1, Option.bind_some, ht]
    rw [uI_at h3 rfl hx (by decide), Option.bind_some]
    refine ⟨_, rfl, ⟨?_, hS.keep (fun y _ _ => by rw [zup_ne _ _ (by omega)]), _, zup_same _ _ _, fun y hy => ?_⟩, fun y hy => by rw [zup_ne _ _ (by omega)]⟩
    · rw [zup_ne _ _ (by omega), show knR r (nI k) (nI (u + 1)) 22 = r 22 by unfold knR; rw [if_pos rfl, if_neg (fun q => c (tm.2.2.mp q))], show knR r (nI k) (nI (u + 1)) 3 = r 3 from if_neg (by decide)]
      exact h1
    · unfold knG
      by_cases cy : y = x
      · rw [if_pos cy, cy, upd_same, e]
        unfold mnG
        rw [if_neg (fun q => c (tm.2.2.mp q)), if_neg hv0, show (1 : Int32) = nI 1 from rfl, pk_sub (by omega), imin_nI (by omega) (by omega)]
        by_cases c3 : k ≤ u + 1
        · rw [if_pos (nI_le c3 (by omega)), pk_sub (by omega), Nat.min_eq_left (by omega)]
        · rw [if_neg (nI_ge (by omega) (by omega)), pk_sub (by omega), Nat.min_eq_right (by omega)]
          congr 1
      · rw [if_neg cy, upd_ne _ _ cy, h4 y hy]
-- one thing
def adS (s : AS) (i x : Nat) : AS := setT s (sT s + 1) i (knR (tkR (sR s i) (hsh x (sdN (sR s i)))) (sG s i x) (nI (sT s + 1))) (knG (sG s i) x (nI (sT s + 1)))
theorem tkR_get {r : Nat → Int32} {h : Nat} (hr : rW r) : tkR r h 22 = r 22 ∧ tkR r h 3 = r 3 ∧ tkR r h 1 = r 1 ∧ tkR r h 0 = r 0 := by
  have k0 := ksR_0 r h hr.kt.1
  have e : ∀ j, j ≠ 2 → tkR r h j = ksR r h j := fun j hj => if_neg hj
  rw [e 22 (by decide), e 3 (by decide), e 1 (by decide), e 0 (by decide)]
  refine ⟨?_, k0.2.2.1, k0.2.1, k0.1⟩
  unfold ksR
  split
  · rfl
  · split
    · exact khR_get _ _ (by omega) (by omega) hr.kt.1
    · exact if_neg (by omega)
theorem WS_ad {s : AS} {i x : Nat} (h : WS s) (hi : i < sM s) (hx : x < 1000) (ht : sT s < 20000) : WS (adS s i x) := by
  have hw := h.2.2.2 i hi
  have hh := hsh_lt x (sdN (sR s i))
  have w1 : WT (sT s + 1) (tkR (sR s i) (hsh x (sdN (sR s i)))) (sG s i) := ⟨WR_tk hw.1 hh, by rw [(tkR_get hw.1.1).1]; exact hw.2.1, (hw.mono (by omega)).2.2⟩
  exact h.put (by omega) (by omega) (w1.kn (by omega) hx rfl (Nat.le_refl _))
theorem X4_put1 {N : Nat} {σ : zS} {a i x : Nat} {s : AS} (hN : 50 < N) (h : St σ a s) (hW : WS s) (hi : i < sM s) (hx : x < 1000) (ht : sT s < 20000) : ∃ σ1 σ2 σ3, m_X3_take N σ (a + 6 + 5 * i + 1) (nI x) = some σ1 ∧ gI σ1 4 3 a = some (nI (sT s)) ∧ isO σ1 5 (a + 6 + 5 * i) = some () ∧ m_X5_know N σ1 (a + 6 + 5 * i) (nI x) (nI (sT s)) = some σ2 ∧ gI σ2 4 3 a = some (nI (sT s)) ∧ sI σ2 4 3 a (nI (sT s + 1)) = some σ3 ∧ St σ3 a (adS s i x) ∧ ∀ y, (y < a ∨ a + 36 ≤ y) → σ3 y = σ y := by
  have hM := hW.1
  have hw := hW.2.2.2 i hi
  have tb := h.tb hi
  have hsd := hw.1.1.sd
  have tg := tkR_get (h := hsh x (sdN (sR s i))) hw.1.1
  obtain ⟨σ1, e1, u1⟩ := X3_take (N := N) (t := x) (s := sdN (sR s i)) hN tb.2.1 hw.1.1 hx hsd.1 hsd.2
  have t1 : Tb σ1 (a + 6 + 5 * i) (tkR (sR s i) (hsh x (sdN (sR s i)))) (sG s i) := by
    obtain ⟨b1, b2, f, b3, b4⟩ := tb
    exact ⟨by rw [u1.2 _ (by omega), tg.1, tg.2.1]; exact b1, u1.1, f, by rw [u1.2 _ (by omega)]; exact b3, b4⟩
  have s1 := h.put hM hi (fun y hy => u1.2 y (by omega)) t1
  obtain ⟨k, hk, ek⟩ := hw.2.2 x hx
  obtain ⟨σ2, e2, t2, f2⟩ := X5_know (N := N) (t := sT s) (u := sT s) t1 ⟨k, by omega, ek⟩ hx (by omega)
  have s2 : St σ2 a (setT s (sT s) i (knR (tkR (sR s i) (hsh x (sdN (sR s i)))) (sG s i x) (nI (sT s + 1))) (knG (sG s i) x (nI (sT s + 1)))) := h.put hM hi (fun y hy => by rw [f2 y hy, u1.2 y (by omega)]) t2
  obtain ⟨σ3, e3, s3, f3⟩ := s2.time (t := sT s + 1) hM
  exact ⟨σ1, σ2, σ3, e1, s1.o.2.2.2.2, t1.o.1, e2, s2.o.2.2.2.2, e3, s3, fun y hy => by rw [f3 y (by omega), f2 y (by omega), u1.2 y (by omega)]⟩
