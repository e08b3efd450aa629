/-! Pure, 15: a merge, both sides -/
def kaT (i j x : Nat) (s : AS) : AS := setT s (sT s) i (knR (sR s i) (sG s i x) (sG s j x)) (knG (sG s i) x (sG s j x))
def mgL (i j : Nat) : Nat → Nat → AS → AS
  | 0, _, s => s
  | d + 1, x, s => mgL i j d (x + 1) (kaT i j x s)
theorem WS_ka {s : AS} {i j x : Nat} (h : WS s) (hi : i < sM s) (hj : j < sM s) (hx : x < 1000) : WS (kaT i j x s) := by
  have hw := h.2.2.2 i hi
  obtain ⟨k, hk, e⟩ := (h.2.2.2 j hj).2.2 x hx
  exact h.put (Nat.le_refl _) h.2.1 (hw.kn h.2.1 hx e hk)
theorem mgL_W {i j : Nat} : ∀ d x s, WS s → i < sM s → j < sM s → x + d ≤ 1000 → WS (mgL i j d x s) ∧ sM (mgL i j d x s) = sM s
  | 0, x, s, h, _, _, _ => ⟨h, rfl⟩
  | d + 1, x, s, h, hi, hj, hx => mgL_W d (x + 1) (kaT i j x s) (WS_ka h hi hj (by omega)) hi hj (by omega)
theorem Tb.cong {σ : zS} {q : Nat} {r r' g g' : Nat → Int32} (h : Tb σ q r g) (e : ∀ j, j < 23 → r j = r' j) (e' : ∀ x, x < 1000 → g x = g' x) : Tb σ q r' g' := by
  obtain ⟨h1, h2, f, h3, h4⟩ := h
  exact ⟨by rw [← e 22 (by omega), ← e 3 (by omega)]; exact h1, h2.cong (fun j hj => e j (by omega)), f, h3, fun x hx => by rw [h4 x hx, e' x hx]⟩
theorem X5_knowL {N a i j : Nat} (hij : i ≠ j) : ∀ d x n σ s, St σ a s → WS s → i < sM s → j < sM s → x + d = 1000 → d < n → ∃ σ', m_X5_knowAllOf_L2 N n σ (a + 6 + 5 * i) (a + 6 + 5 * j) (nI x) = some σ' ∧ St σ' a (mgL i j d x s) ∧ ∀ y, (y < a ∨ a + 36 ≤ y) → σ' y = σ y := by
  intro d
  induction d with
  | zero =>
    intro x n σ s h hW hi hj hx hn
    obtain ⟨n, rfl⟩ : ∃ m, n = m + 1 := ⟨n - 1, by omega⟩
    rw [m_X5_knowAllOf_L2, if_pos (by rw [show x = 1000 by omega]; decide)]
    exact ⟨σ, rfl, h, fun _ _ => rfl⟩
  | succ d ih =>
    intro x n σ s h hW hi hj hx hn
    obtain ⟨n, rfl⟩ : ∃ m, n = m + 1 := ⟨n - 1, by omega⟩
    have hM := hW.1
    have hT := hW.2.1
    have ti := h.tb hi
    have tj := h.tb hj
    obtain ⟨k, hk, ek⟩ := (hW.2.2.2 j hj).2.2 x (by omega)
    obtain ⟨m, hm, em⟩ := (hW.2.2.2 i hi).2.2 x (by omega)
    have tk := tm_eq (k := k) (by omega)
    have tm := tm_eq (k := m) (by omega)
    rw [m_X5_knowAllOf_L2, if_neg (litge 1000 (by omega) (by decide)), tj.o.2.2.1, Option.bind_some, tj.time (by omega), Option.bind_some, ek]
    by_cases c : k = 0
    · have s1 : St σ a (kaT i j x s) := by
        refine h.put hM hi (fun _ _ => rfl) (ti.cong (fun y hy => ?_) (fun y hy => ?_))
        · unfold knR
          rw [ek, c]
          by_cases c22 : y = 22
          · rw [if_pos c22, c22, if_pos (show nI 0 ≤ 0 by decide)]
            split <;> rfl
          · rw [if_neg c22]
        · unfold knG mnG
          rw [ek, c]
          by_cases cy : y = x
          · rw [if_pos cy, cy]
            by_cases c0 : sG s i x = 0
            · rw [if_pos c0, c0]
              rfl
            · rw [if_neg c0, if_pos (show nI 0 ≤ 0 by decide)]
          · rw [if_neg cy]
      obtain ⟨σ2, e1, e2, e3⟩ := ih (x + 1) n σ (kaT i j x s) s1 (WS_ka hW hi hj (by omega)) hi hj (by omega) (by omega)
      rw [if_pos (tk.1.mpr c), Option.bind_some, Option.bind_some, nI_1, e1]
      exact ⟨σ2, rfl, e2, e3⟩
    · obtain ⟨σ1, b1, b2, b3⟩ := X5_know (N := N) (t := 0) (u := k - 1) ti ⟨m, by omega, em⟩ (show x < 1000 by omega) (by omega)
      rw [show k - 1 + 1 = k by omega, ← ek] at b2
      have s1 : St σ1 a (kaT i j x s) := h.put hM hi (fun y hy => b3 y hy) b2
      obtain ⟨σ2, e1, e2, e3⟩ := ih (x + 1) n σ1 (kaT i j x s) s1 (WS_ka hW hi hj (by omega)) hi hj (by omega) (by omega)
      rw [if_neg (fun q => c (tk.1.mp q)), Option.bind_some, tj.time (by omega), Option.bind_some, ek, show (1 : Int32) = nI 1 from rfl, pk_sub (by omega), ti.o.1, Option.bind_some, b1, Option.bind_some, Option.bind_some, Option.bind_some, nI_add, e1]
      exact ⟨σ2, rfl, e2, fun y hy => by rw [e3 y hy, b3 y (by omega)]⟩
theorem X9_mergeL {N M i j : Nat} (hij : i ≠ j) : ∀ d x n σ s, Nw σ M s → WS s → i < sM s → j < sM s → x + d = 1000 → d < n → ∃ F' : Nat → Int32, m_X9_mergesInto_L93 N n σ M (nI i) (nI j) (nI x) = some (zup σ (M + 1) (.inl (1, 6165, .inl F'))) ∧ FR F' (mgL i j d x s) := by
  intro d
  induction d with
  | zero =>
    intro x n σ s h hW hi hj hx hn
    obtain ⟨n, rfl⟩ : ∃ m, n = m + 1 := ⟨n - 1, by omega⟩
    obtain ⟨nb, F, nF, fr⟩ := h
    rw [m_X9_mergesInto_L93, if_pos (by rw [show x = 1000 by omega]; decide)]
    exact ⟨F, by rw [zup_id nF], fr⟩
  | succ d ih =>
    intro x n σ s h hW hi hj hx hn
    obtain ⟨n, rfl⟩ : ∃ m, n = m + 1 := ⟨n - 1, by omega⟩
    have hM := hW.1
    have hw := hW.2.2.2 i hi
    have r1 := h.seen hM hj (x := x) (v := 165 + 1000 * nI j + nI x) (by omega) (by simp only [nlit, pk_mul, nI_add])
    have r2 := h.seen hM hi (x := x) (v := 165 + 1000 * nI i + nI x) (by omega) (by simp only [nlit, pk_mul, nI_add])
    have r3 := (h.row hM hi).rd (j := 22) (x := 23 * nI i + 22) (by omega) (by simp only [nlit, pk_mul, nI_add])
    have h0 := h
    obtain ⟨nb, F, nF, fr⟩ := h
    have nz : ∀ F2 : Nat → Int32, MB (zup σ (M + 1) (.inl (1, 6165, .inl F2))) M := fun F2 => nb.keep (zup_ne _ _ (by omega))
    obtain ⟨y57, hy57, ey57⟩ : ∃ y57 : Int32, (if sG s i x = 0 then (if sG s j x ≤ 0 then some (0 : Int32) else some 1) else some 0) = some y57 ∧ sR s i 22 + y57 = knR (sR s i) (sG s i x) (sG s j x) 22 := by
      unfold knR
      rw [if_pos rfl]
      by_cases c : sG s i x = 0
      · by_cases c2 : sG s j x ≤ 0
        · exact ⟨0, by rw [if_pos c, if_pos c2], by rw [if_pos c, if_pos c2, Int32.add_zero]⟩
        · exact ⟨1, by rw [if_pos c, if_neg c2], by rw [if_pos c, if_neg c2]⟩
      · exact ⟨0, by rw [if_neg c], by rw [if_neg c, Int32.add_zero]⟩
    have hy66 : (if sG s i x = 0 then some (sG s j x) else (if sG s j x ≤ 0 then some (sG s i x) else (if sG s i x ≤ sG s j x then some (sG s i x) else some (sG s j x)))) = some (mnG (sG s i x) (sG s j x)) := by
      unfold mnG
      split
      · rfl
      · split
        · rfl
        · split <;> rfl
    have b1 := uI_at nF (x := 23 * nI i + 22) (k := 23 * i + 22) (y := sR s i 22 + y57) (by simp only [nlit, pk_mul, nI_add]) (by omega) (by decide)
    have z1 := zup_same σ (M + 1) (.inl (1, 6165, .inl (upd F (23 * i + 22) (sR s i 22 + y57))))
    have b2 := uI_at z1 (x := 165 + 1000 * nI i + nI x) (k := 165 + 1000 * i + x) (y := mnG (sG s i x) (sG s j x)) (by simp only [nlit, pk_mul, nI_add]) (by omega) (by decide)
    rw [zup_zup] at b2
    have fr2 : FR (upd (upd F (23 * i + 22) (sR s i 22 + y57)) (165 + 1000 * i + x) (mnG (sG s i x) (sG s j x))) (kaT i j x s) := by
      refine FR.put hM hW.2.2.1 hi fr (fun y hy => ?_) (fun y hy => ?_) ?_ (fun y hy h139 hr hg => ?_)
      · rw [upd_ne _ _ (by omega)]
        by_cases c22 : y = 22
        · rw [c22, upd_same, ey57]
        · rw [upd_ne _ _ (by omega), (fr.2.2.2.1 i hi).1 y hy]
          exact (if_neg c22).symm
      · unfold knG
        by_cases cy : y = x
        · rw [if_pos cy, cy, upd_same]
        · rw [if_neg cy, upd_ne _ _ (by omega), upd_ne _ _ (by omega), (fr.2.2.2.1 i hi).2 y hy]
      · rw [upd_ne _ _ (by omega), upd_ne _ _ (by omega), fr.2.1]
      · rw [upd_ne _ _ (by omega), upd_ne _ _ (by omega)]
    obtain ⟨F2, q1, q2⟩ := ih (x + 1) n _ (kaT i j x s) (h0.of fr2) (WS_ka hW hi hj (by omega)) hi hj (by omega) (by omega)
    rw [zup_zup] at q1
    rw [m_X9_mergesInto_L93, if_neg (litge 1000 (by omega) (by decide))]
    simp only [nb.o.2.1, bsm, r1, r2, r3, hy57, b1, (nz _).o.2.1, hy66, b2, nI_1]
    exact ⟨F2, q1, q2⟩
def unS (i j : Nat) (s : AS) : AS := mgL i j 1000 0 (setT s (sT s) i (unR (sR s i) (sR s j)) (sG s i))
theorem unS_0 {s : AS} {i j : Nat} (h : WS s) (hi : i < sM s) (hj : j < sM s) (e : sR s i 0 = sR s j 0) : WS (setT s (sT s) i (unR (sR s i) (sR s j)) (sG s i)) := by
  have hwi := h.2.2.2 i hi
  have hwj := h.2.2.2 j hj
  exact h.put (Nat.le_refl _) h.2.1 ⟨WR_un hwi.1 hwj.1 e, by rw [(unR_get hwi.1.1 hwj.1.1).2.2.2]; exact hwi.2.1, hwi.2.2⟩
theorem act_merge {N : Nat} {σ : zS} {a i j : Nat} {s : AS} (hN : 7000 < N) (h : St σ a s) (hW : WS s) (hi : i < sM s) (hj : j < sM s) (hij : i ≠ j) (e : sR s i 0 = sR s j 0) : ∃ σ', m_X4_unite N σ a (nI i) (nI j) = some (nI (toldN (sR (unS i j s) i)), σ') ∧ St σ' a (unS i j s) ∧ ∀ x, (x < a ∨ a + 36 ≤ x) → σ' x = σ x := by
  have hM := hW.1
  have hwi := hW.2.2.2 i hi
  have hwj := hW.2.2.2 j hj
  have ti := h.tb hi
  have tj := h.tb hj
  have w0 := unS_0 hW hi hj e
  have ug := unR_get hwi.1.1 hwj.1.1
  obtain ⟨σ1, e1, u1⟩ := X3_unite (N := N) (by omega) (by omega) ti.2.1 hwi.1.1 tj.2.1 hwj.1.1
  have t1 : Tb σ1 (a + 6 + 5 * i) (unR (sR s i) (sR s j)) (sG s i) := by
    obtain ⟨b1, b2, f, b3, b4⟩ := ti
    exact ⟨by rw [u1.2 _ (by omega), ug.2.2.1, ug.2.2.2]; exact b1, u1.1, f, by rw [u1.2 _ (by omega)]; exact b3, b4⟩
  have s1 : St σ1 a (setT s (sT s) i (unR (sR s i) (sR s j)) (sG s i)) := h.put hM hi (fun y hy => u1.2 y (by omega)) t1
  obtain ⟨σ2, c1, c2, c3⟩ := X5_knowL (N := N) (a := a) hij 1000 0 N σ1 _ s1 w0 hi hj rfl (by omega)
  have w2 := mgL_W (i := i) (j := j) 1000 0 _ w0 hi hj (by omega)
  have hi2 : i < sM (unS i j s) := by
    have := w2.2
    show i < sM (mgL i j 1000 0 _)
    rw [this]
    exact hi
  have t2 : Tb σ2 (a + 6 + 5 * i) (sR (unS i j s) i) (sG (unS i j s) i) := c2.tb hi2
  have hw2 := (w2.1.2.2.2 i hi2).1
  have tl := X3_told (N := N) (by omega) t2.2.1 hw2.1
  refine ⟨σ2, ?_, c2, fun x hx => by rw [c3 x hx, u1.2 x (by omega)]⟩
  unfold m_X4_unite m_X5_knowAllOf
  rw [h.o.1, Option.bind_some, h.find_in hM hi, Option.bind_some, Option.elim_some, Option.bind_some, h.find_in hM hj, Option.bind_some, Option.elim_some, ti.o.2.1, Option.bind_some, tj.o.2.1, Option.bind_some, ti.o.2.2.2.2.2, Option.bind_some, e1, Option.bind_some, t1.o.1, Option.bind_some, show (0 : Int32) = nI 0 from rfl, c1, Option.bind_some, Option.bind_some, t2.o.2.1, Option.bind_some, t2.o.2.2.2.2.2, Option.bind_some]
  rw [show m_X3_told N σ2 (a + 6 + 5 * i + 1) = _ from tl, Option.bind_some]
theorem md_merge {N : Nat} {σ : zS} {M i j : Nat} {s : AS} (hN : 7000 < N) (h : Nw σ M s) (hW : WS s) (hi : i < sM s) (hj : j < sM s) (hij : i ≠ j) (e : sR s i 0 = sR s j 0 ∧ sR s i 1 = sR s j 1) : ∃ F' : Nat → Int32, m_X9_mergesInto N σ M (nI i) (nI j) = some (nI (toldN (sR (unS i j s) i)), zup σ (M + 1) (.inl (1, 6165, .inl F'))) ∧ FR F' (unS i j s) := by
  have hM := hW.1
  have hwi := hW.2.2.2 i hi
  have hwj := hW.2.2.2 j hj
  have w0 := unS_0 hW hi hj e.1
  have w2 := mgL_W (i := i) (j := j) 1000 0 _ w0 hi hj (by omega)
  have hi2 : i < sM (unS i j s) := by
    have := w2.2
    show i < sM (mgL i j 1000 0 _)
    rw [this]
    exact hi
  have h0 := h
  have hrj := h.row hM hj
  obtain ⟨nb, F, nF, fr⟩ := h
  have nz : ∀ F2 : Nat → Int32, MB (zup σ (M + 1) (.inl (1, 6165, .inl F2))) M := fun F2 => nb.keep (zup_ne _ _ (by omega))
  have ha := hwi.1.1.ad
  have ha' := hwj.1.1.ad
  obtain ⟨σ1, k1, F1, k2, k3, k4⟩ := X9_mingles (N := N) (o := 23 * i) (o' := 23 * j) (by omega) (by decide) (by omega) (Or.inr (by omega)) nF (fr.2.2.2.1 i hi).1 hwi.1.1 hrj hwj.1.1
  subst k2
  have z1 := zup_same σ (M + 1) (.inl (1, 6165, .inl F1))
  have r1 := aI_at z1 (x := 23 * nI i + 2) (k := 23 * i + 2) (by simp only [nlit, pk_mul, nI_add]) (by omega) (by decide)
  have r2 := aI_at z1 (x := 23 * nI j + 2) (k := 23 * j + 2) (by simp only [nlit, pk_mul, nI_add]) (by omega) (by decide)
  rw [k3 2 (by decide), (mgR_W hwi.1.1 hwj.1.1).2.1 2 (by decide), ha.2] at r1
  rw [k4 _ (by omega) (by omega), (fr.2.2.2.1 j hj).1 2 (by decide), ha'.2] at r2
  have ad : ∀ σ' : zS, m_X9_added N σ' M (nI (sR s i 2).toNatClampNeg) (nI (sR s j 2).toNatClampNeg) = some (nI (adN (sR s i) (sR s j))) := fun σ' => X9_added ha.1 ha'.1
  generalize hA : nI (adN (sR s i) (sR s j)) = A2
  rw [hA] at ad
  have b2 := uI_at z1 (x := 23 * nI i + 2) (k := 23 * i + 2) (y := A2) (by simp only [nlit, pk_mul, nI_add]) (by omega) (by decide)
  rw [zup_zup] at b2
  have fr2 : FR (upd F1 (23 * i + 2) A2) (setT s (sT s) i (unR (sR s i) (sR s j)) (sG s i)) := by
    refine FR.put hM hW.2.2.1 hi fr (fun y hy => ?_) (fun y hy => ?_) ?_ (fun y hy h139 hr hg => ?_)
    · unfold unR adR
      by_cases c2 : y = 2
      · rw [if_pos c2, c2, upd_same, hA]
      · rw [if_neg c2, upd_ne _ _ (by omega), k3 y hy]
    · rw [upd_ne _ _ (by omega), k4 _ (by omega) (by omega), (fr.2.2.2.1 i hi).2 y hy]
    · rw [upd_ne _ _ (by omega), k4 _ (by omega) (by omega), fr.2.1]
    · rw [upd_ne _ _ (by omega), k4 _ hy (by omega)]
  obtain ⟨F3, c1, c2⟩ := X9_mergeL (N := N) (M := M) hij 1000 0 N _ _ (h0.of fr2) w0 hi hj rfl (by omega)
  rw [zup_zup] at c1
  have nw3 : Nw (zup σ (M + 1) (.inl (1, 6165, .inl F3))) M (unS i j s) := h0.of c2
  have tl := X9_toldOf (N := N) (by omega) nw3 w2.1 hi2
  have k1' : m_X9_mingles N σ (M + 1) (23 * nI i) (M + 1) (23 * nI j) = some (zup σ (M + 1) (.inl (1, 6165, .inl F1))) := by
    rw [show (23 : Int32) = nI 23 from rfl, pk_mul, pk_mul]
    exact k1
  refine ⟨F3, ?_, c2⟩
  unfold m_X9_mergesInto
  rw [nb.o.1, Option.bind_some, X9_isTable_in h0 hM hi, Option.bind_some, if_neg ne10, Option.bind_some, X9_isTable_in h0 hM hj, Option.bind_some, if_neg ne10, if_neg (by rw [nI_eq (by omega) (by omega)]; exact hij), Option.bind_some, X9_areAlike h0 hM hi hj, Option.bind_some, if_pos e, if_neg ne10]
  simp only [nb.o.2.1, bsm, k1', (nz _).o.2.1, (nz _).o.1, r1, r2, ad, b2]
  rw [show m_X9_mergesInto_L93 N N _ M (nI i) (nI j) 0 = _ from c1, Option.bind_some, (nz _).o.1, Option.bind_some, tl, Option.bind_some]
theorem cmd_merge {N : Nat} {s : AS} (hN : 7000 < N) (hW : WS s) (v u : Int32) : Cmd (fun σ a => m_X4_refusalOfMerge N σ a v u) (fun σ a => m_X4_unite N σ a v u) (fun σ M => m_X9_mergesInto N σ M v u) s := by
  have hM := hW.1
  rcases tbl_cases s hM v with ⟨i, hi, rfl⟩ | hv
  · rcases tbl_cases s hM u with ⟨j, hj, rfl⟩ | hu
    · by_cases hij : i = j
      · refine Or.inl ⟨-1, by decide, fun σ a h => ?_, fun σ M h => ?_⟩
        · dsimp only
          unfold m_X4_refusalOfMerge
          rw [h.o.1, Option.bind_some, h.find_in hM hi, Option.bind_some, Option.elim_some, Option.bind_some, h.find_in hM hj, Option.bind_some, Option.elim_some, if_pos (by rw [hij])]
        · dsimp only
          unfold m_X9_mergesInto
          rw [h.1.o.1, Option.bind_some, X9_isTable_in h hM hi, Option.bind_some, if_neg ne10, Option.bind_some, X9_isTable_in h hM hj, Option.bind_some, if_neg ne10, if_pos (by rw [hij])]
      · have nij : ¬ nI i = nI j := by rw [nI_eq (by omega) (by omega)]; exact hij
        by_cases e : sR s i 0 = sR s j 0 ∧ sR s i 1 = sR s j 1
        · have w2 := mgL_W (i := i) (j := j) 1000 0 _ (unS_0 hW hi hj e.1) hi hj (by omega)
          have hi2 : i < sM (unS i j s) := by
            have := w2.2
            show i < sM (mgL i j 1000 0 _)
            rw [this]
            exact hi
          have tl := toldN_le _ (w2.1.2.2.2 i hi2).1.1
          refine Or.inr ⟨_, _, nI_pos' (n := toldN (sR (unS i j s) i)) (Nat.lt_of_le_of_lt tl (by decide)), w2.1, fun σ a h => ?_, fun σ a h => act_merge hN h hW hi hj hij e.1, fun σ M h => md_merge hN h hW hi hj hij e⟩
          dsimp only
          unfold m_X4_refusalOfMerge
          rw [h.o.1, Option.bind_some, h.find_in hM hi, Option.bind_some, Option.elim_some, Option.bind_some, h.find_in hM hj, Option.bind_some, Option.elim_some, if_neg nij, (h.tb hi).o.2.1, Option.bind_some, (h.tb hj).o.2.1, Option.bind_some, (h.tb hi).o.2.2.2.2.2, Option.bind_some, X3_isLike (h.tb hi).2.1 (h.tb hj).2.1, Option.bind_some, if_pos e, if_neg ne10]
        · refine Or.inl ⟨-2, by decide, fun σ a h => ?_, fun σ M h => ?_⟩
          · dsimp only
            unfold m_X4_refusalOfMerge
            rw [h.o.1, Option.bind_some, h.find_in hM hi, Option.bind_some, Option.elim_some, Option.bind_some, h.find_in hM hj, Option.bind_some, Option.elim_some, if_neg nij, (h.tb hi).o.2.1, Option.bind_some, (h.tb hj).o.2.1, Option.bind_some, (h.tb hi).o.2.2.2.2.2, Option.bind_some, X3_isLike (h.tb hi).2.1 (h.tb hj).2.1, Option.bind_some, if_neg e, if_pos rfl]
          · dsimp only
            unfold m_X9_mergesInto
            rw [h.1.o.1, Option.bind_some, X9_isTable_in h hM hi, Option.bind_some, if_neg ne10, Option.bind_some, X9_isTable_in h hM hj, Option.bind_some, if_neg ne10, if_neg nij, Option.bind_some, X9_areAlike h hM hi hj, Option.bind_some, if_neg e, if_pos rfl]
    · refine Or.inl ⟨-1, by decide, fun σ a h => ?_, fun σ M h => ?_⟩
      · dsimp only
        unfold m_X4_refusalOfMerge
        simp only [h.o.1, Option.bind_some, h.find_in hM hi, h.find_out hu, Option.elim_some, Option.elim_none]
      · dsimp only
        unfold m_X9_mergesInto
        simp only [h.1.o.1, Option.bind_some, X9_isTable_in h hM hi, X9_isTable_out h hM hu, if_neg ne10, if_true]
  · refine Or.inl ⟨-1, by decide, fun σ a h => ?_, fun σ M h => ?_⟩
    · dsimp only
      unfold m_X4_refusalOfMerge
      rcases tbl_cases s hM u with ⟨j, hj, rfl⟩ | hu
      · simp only [h.o.1, Option.bind_some, h.find_in hM hj, h.find_out hv, Option.elim_some, Option.elim_none]
      · simp only [h.o.1, Option.bind_some, h.find_out hu, h.find_out hv, Option.elim_none]
    · dsimp only
      unfold m_X9_mergesInto
      simp only [h.1.o.1, Option.bind_some, X9_isTable_out h hM hv, if_true]
