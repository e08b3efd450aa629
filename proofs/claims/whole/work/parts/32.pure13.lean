/-! Pure, 13: a row of things, both sides -/
theorem bsm {α β : Type} (a : α) (f : α → Option β) : (some a).bind f = f a := (Option.bind_some a f).trans rfl
theorem tkR_ne {r : Nat → Int32} {h j : Nat} (hj : j ≠ 2) : tkR r h j = ksR r h j := if_neg hj
theorem tkR_2 {r : Nat → Int32} {h : Nat} : tkR r h 2 = nI (min ((r 2).toNatClampNeg + 1) 1000000000) := by
  unfold tkR adR
  rw [if_pos rfl]
theorem ksR_22 {r : Nat → Int32} {h : Nat} (hr : rW r) : ksR r h 22 = r 22 := by
  rw [← tkR_ne (by decide)]
  exact (tkR_get hr).1
theorem X9_sees1 {N : Nat} {σ : zS} {M i x : Nat} {s : AS} (hN : 50 < N) (h : Nw σ M s) (hW : WS s) (hi : i < sM s) (hx : x < 1000) (ht : sT s < 20000) : ∃ F' : Nat → Int32, m_X9_sees N σ M (nI i) (nI x) = some (zup σ (M + 1) (.inl (1, 6165, .inl F'))) ∧ FR F' (adS s i x) := by
  have hM := hW.1
  have hw := hW.2.2.2 i hi
  have hsd := hw.1.1.sd
  have hh := hsh_lt x (sdN (sR s i))
  have ha := hw.1.1.ad
  obtain ⟨nb, F, nF, fr⟩ := h
  have hrow := (fr.2.2.2.1 i hi).1
  have hsee := (fr.2.2.2.1 i hi).2
  obtain ⟨σ1, k1, F1, k2, k3, k4⟩ := X9_keeps (N := N) (h := hsh x (sdN (sR s i))) hN nF (by decide) (by omega) hrow hw.1.1 hh
  subst k2
  have z1 := zup_same σ (M + 1) (.inl (1, 6165, .inl F1))
  have nz : ∀ F2 : Nat → Int32, MB (zup σ (M + 1) (.inl (1, 6165, .inl F2))) M := fun F2 => nb.keep (zup_ne _ _ (by omega))
  have a1 : aI 1 σ (M + 1) (nI (23 * i) + 1) = some (nI (sdN (sR s i))) := by
    rw [aI_at nF (k := 23 * i + 1) (by simp only [nlit, nI_add]) (by omega) (by decide), hrow 1 (by decide), hsd.2]
  have f2 : F1 (23 * i + 2) = nI (sR s i 2).toNatClampNeg := by rw [k3 2 (by decide), (ksR_0 _ _ hw.1.1.kt.1).2.2.2, ← ha.2]
  generalize hA : nI (min ((sR s i 2).toNatClampNeg + 1) 1000000000) = A2
  have ad : ∀ σ' : zS, m_X9_added N σ' M (nI (sR s i 2).toNatClampNeg) 1 = some A2 := fun σ' => by rw [← hA]; rw [show (1 : Int32) = nI 1 from rfl]; exact X9_added ha.1 (by omega)
  have b1 := aI_at z1 (x := nI (23 * i) + 2) (k := 23 * i + 2) (by simp only [nlit, nI_add]) (by omega) (by decide)
  have b2 := uI_at z1 (x := nI (23 * i) + 2) (k := 23 * i + 2) (y := A2) (by simp only [nlit, nI_add]) (by omega) (by decide)
  have F1g : F1 (165 + 1000 * i + x) = sG s i x := by rw [k4 _ (by omega) (by omega), hsee x hx]
  have F1t : F1 139 = nI (sT s) := by rw [k4 _ (by omega) (by omega), fr.2.1]
  have F1e : F1 (23 * i + 22) = sR s i 22 := by rw [k3 22 (by decide), ksR_22 hw.1.1]
  have z2 := zup_same σ (M + 1) (.inl (1, 6165, .inl (upd F1 (23 * i + 2) A2)))
  have e3 : aI 1 (zup σ (M + 1) (.inl (1, 6165, .inl (upd F1 (23 * i + 2) A2)))) (M + 1) (nI (165 + 1000 * i + x)) = some (sG s i x) := by
    rw [aI_at z2 rfl (by omega) (by decide), upd_ne _ _ (by omega), F1g]
  have e4 : aI 1 (zup σ (M + 1) (.inl (1, 6165, .inl (upd F1 (23 * i + 2) A2)))) (M + 1) 139 = some (nI (sT s)) := by
    rw [aI_at z2 (show (139 : Int32) = nI 139 from rfl) (by omega) (by decide), upd_ne _ _ (by omega), F1t]
  have tk : ∀ j, j < 23 → j ≠ 2 → F1 (23 * i + j) = tkR (sR s i) (hsh x (sdN (sR s i))) j := fun j hj h2 => by
    rw [k3 j hj, tkR_ne h2]
  have tk2 : tkR (sR s i) (hsh x (sdN (sR s i))) 2 = A2 := by rw [← hA, tkR_2]
  have nv : ¬ nI (sT s + 1) ≤ 0 := nI_nle (by omega) (by omega)
  obtain ⟨gk, hgk, eg⟩ := hw.2.2 x hx
  unfold m_X9_sees
  rw [show (23 : Int32) * nI i = nI (23 * i) by simp only [nlit, pk_mul], show (165 : Int32) + 1000 * nI i + nI x = nI (165 + 1000 * i + x) by simp only [nlit, pk_mul, nI_add]]
  by_cases c : sG s i x = 0
  · have e5 := uI_at z2 (x := nI (165 + 1000 * i + x)) (k := 165 + 1000 * i + x) (y := nI (sT s) + 1) rfl (by omega) (by decide)
    rw [zup_zup] at e5 b2
    have z3 := zup_same σ (M + 1) (.inl (1, 6165, .inl (upd (upd F1 (23 * i + 2) A2) (165 + 1000 * i + x) (nI (sT s) + 1))))
    have e6 : aI 1 (zup σ (M + 1) (.inl (1, 6165, .inl (upd (upd F1 (23 * i + 2) A2) (165 + 1000 * i + x) (nI (sT s) + 1))))) (M + 1) (nI (23 * i) + 22) = some (sR s i 22) := by
      rw [aI_at z3 (k := 23 * i + 22) (by simp only [nlit, nI_add]) (by omega) (by decide), upd_ne _ _ (by omega), upd_ne _ _ (by omega), F1e]
    have e7 := uI_at z3 (x := nI (23 * i) + 22) (k := 23 * i + 22) (y := sR s i 22 + 1) (by simp only [nlit, nI_add]) (by omega) (by decide)
    rw [zup_zup] at e7
    have z4 := zup_same σ (M + 1) (.inl (1, 6165, .inl (upd (upd (upd F1 (23 * i + 2) A2) (165 + 1000 * i + x) (nI (sT s) + 1)) (23 * i + 22) (sR s i 22 + 1))))
    have e8 : aI 1 (zup σ (M + 1) (.inl (1, 6165, .inl (upd (upd (upd F1 (23 * i + 2) A2) (165 + 1000 * i + x) (nI (sT s) + 1)) (23 * i + 22) (sR s i 22 + 1))))) (M + 1) 139 = some (nI (sT s)) := by
      rw [aI_at z4 (show (139 : Int32) = nI 139 from rfl) (by omega) (by decide), upd_ne _ _ (by omega), upd_ne _ _ (by omega), upd_ne _ _ (by omega), F1t]
    have e9 := uI_at z4 (x := 139) (k := 139) (y := nI (sT s) + 1) rfl (by omega) (by decide)
    rw [zup_zup] at e9
    simp only [bsm, nb.o.2.1, a1, X9_hashOf hx hsd.1, k1, (nz _).o.2.1, (nz _).o.1, b1, f2, ad, b2, e3, if_pos c, e4, e5, e6, e7, e8, e9]
    refine ⟨_, rfl, FR.put hM hW.2.2.1 hi fr (fun j hj => ?_) (fun y hy => ?_) ?_ (fun y hy h139 hr hg => ?_)⟩
    · rw [upd_ne _ _ (by omega)]
      unfold knR
      by_cases c22 : j = 22
      · rw [if_pos c22, if_pos c, if_neg nv, c22, upd_same, (tkR_get hw.1.1).1]
      · rw [if_neg c22, upd_ne _ _ (by omega), upd_ne _ _ (by omega)]
        by_cases c2 : j = 2
        · rw [c2, upd_same, tk2]
        · rw [upd_ne _ _ (by omega), tk j hj c2]
    · rw [upd_ne _ _ (by omega), upd_ne _ _ (by omega)]
      unfold knG
      by_cases cy : y = x
      · rw [if_pos cy, cy, upd_same, nI_1]
        unfold mnG
        rw [if_pos c]
      · rw [if_neg cy, upd_ne _ _ (by omega), upd_ne _ _ (by omega), k4 _ (by omega) (by omega), hsee y hy]
    · rw [upd_same, nI_1]
    · rw [upd_ne _ _ h139, upd_ne _ _ (by omega), upd_ne _ _ (by omega), upd_ne _ _ (by omega), k4 _ hy hr]
  · rw [zup_zup] at b2
    have e9 := uI_at z2 (x := 139) (k := 139) (y := nI (sT s) + 1) rfl (by omega) (by decide)
    rw [zup_zup] at e9
    simp only [bsm, nb.o.2.1, a1, X9_hashOf hx hsd.1, k1, (nz _).o.2.1, (nz _).o.1, b1, f2, ad, b2, e3, if_neg c, e4, e9]
    refine ⟨_, rfl, FR.put hM hW.2.2.1 hi fr (fun j hj => ?_) (fun y hy => ?_) ?_ (fun y hy h139 hr hg => ?_)⟩
    · rw [upd_ne _ _ (by omega)]
      unfold knR
      by_cases c22 : j = 22
      · rw [if_pos c22, if_neg c, c22, upd_ne _ _ (by omega), F1e, (tkR_get hw.1.1).1]
      · rw [if_neg c22]
        by_cases c2 : j = 2
        · rw [c2, upd_same, tk2]
        · rw [upd_ne _ _ (by omega), tk j hj c2]
    · rw [upd_ne _ _ (by omega), upd_ne _ _ (by omega), k4 _ (by omega) (by omega), hsee y hy]
      unfold knG
      by_cases cy : y = x
      · rw [if_pos cy, cy]
        unfold mnG
        rw [if_neg c, if_neg nv, if_pos (by rw [eg]; exact nI_le (by omega) (by omega))]
      · rw [if_neg cy]
    · rw [upd_same, nI_1]
    · rw [upd_ne _ _ h139, upd_ne _ _ (by omega), k4 _ hy hr]
def rowS (i st : Nat) : Nat → AS → Nat → AS
  | 0, s, _ => s
  | d + 1, s, x => rowS i st d (adS s i x) ((x + st) % 1000)
theorem rowS_W {i st : Nat} : ∀ d s x, WS s → i < sM s → x < 1000 → sT s + d ≤ 20000 → WS (rowS i st d s x) ∧ sM (rowS i st d s x) = sM s
  | 0, s, x, h, _, _, _ => ⟨h, rfl⟩
  | d + 1, s, x, h, hi, hx, ht => rowS_W d (adS s i x) _ (WS_ad h hi hx (by omega)) hi (Nat.mod_lt _ (by decide)) (by show sT s + 1 + d ≤ 20000; omega)
theorem X4_putL {N a i st mn : Nat} (hN : 50 < N) (hst : st < 1000) (hmn : mn ≤ 100) : ∀ d j n x σ s, St σ a s → WS s → i < sM s → x < 1000 → j + d = mn → sT s + d ≤ 20000 → d < n → ∃ σ', m_X4_putRow_L20 N n σ a (nI st) (nI mn) (a + 6 + 5 * i) (nI x) (nI j) = some σ' ∧ St σ' a (rowS i st d s x) ∧ ∀ y, (y < a ∨ a + 36 ≤ y) → σ' y = σ y := by
  intro d
  induction d with
  | zero =>
    intro j n x σ s h hW hi hx hj ht hn
    obtain ⟨n, rfl⟩ : ∃ m, n = m + 1 := ⟨n - 1, by omega⟩
    rw [m_X4_putRow_L20, if_pos (nI_le (by omega) (by omega))]
    exact ⟨σ, rfl, h, fun _ _ => rfl⟩
  | succ d ih =>
    intro j n x σ s h hW hi hx hj ht hn
    obtain ⟨n, rfl⟩ : ∃ m, n = m + 1 := ⟨n - 1, by omega⟩
    have tb := h.tb hi
    obtain ⟨σ1, σ2, σ3, p1, p2, p3, p4, p5, p6, p7, p8⟩ := X4_put1 (N := N) hN h hW hi hx (by omega)
    obtain ⟨σ4, q1, q2, q3⟩ := ih (j + 1) n ((x + st) % 1000) σ3 (adS s i x) p7 (WS_ad hW hi hx (by omega)) hi (Nat.mod_lt _ (by decide)) (by omega) (by show sT s + 1 + d ≤ 20000; omega) (by omega)
    rw [m_X4_putRow_L20, if_neg (nI_ge (by omega) (by omega))]
    simp only [tb.o.2.1, Option.bind_some, tb.o.2.2.2.2.2, p1, p2, p3, p4, p5, nI_1, p6, nI_add]
    rw [show (1000 : Int32) = nI 1000 from rfl, irem_nI (by omega) (by decide) (by decide)]
    exact ⟨σ4, q1, q2, fun y hy => by rw [q3 y hy, p8 y hy]⟩
theorem Nw.of {σ : zS} {M : Nat} {s s' : AS} {F' : Nat → Int32} (h : Nw σ M s) (hF : FR F' s') : Nw (zup σ (M + 1) (.inl (1, 6165, .inl F'))) M s' := ⟨h.1.keep (zup_ne _ _ (by omega)), F', zup_same _ _ _, hF⟩
theorem X9_seesL {N M i st mn : Nat} (hN : 50 < N) (hst : st < 1000) (hmn : mn ≤ 100) : ∀ d j n x σ s, Nw σ M s → WS s → i < sM s → x < 1000 → j + d = mn → sT s + d ≤ 20000 → d < n → ∃ F' : Nat → Int32, m_X9_seesRow_L65 N n σ M (nI i) (nI st) (nI mn) (nI x) (nI j) = some (zup σ (M + 1) (.inl (1, 6165, .inl F'))) ∧ FR F' (rowS i st d s x) := by
  intro d
  induction d with
  | zero =>
    intro j n x σ s h hW hi hx hj ht hn
    obtain ⟨n, rfl⟩ : ∃ m, n = m + 1 := ⟨n - 1, by omega⟩
    rw [m_X9_seesRow_L65, if_pos (nI_le (by omega) (by omega))]
    obtain ⟨h0, F, h1, h2⟩ := h
    exact ⟨F, by rw [zup_id h1], h2⟩
  | succ d ih =>
    intro j n x σ s h hW hi hx hj ht hn
    obtain ⟨n, rfl⟩ : ∃ m, n = m + 1 := ⟨n - 1, by omega⟩
    obtain ⟨F1, p1, p2⟩ := X9_sees1 (N := N) hN h hW hi hx (by omega)
    obtain ⟨F2, q1, q2⟩ := ih (j + 1) n ((x + st) % 1000) _ (adS s i x) (h.of p2) (WS_ad hW hi hx (by omega)) hi (Nat.mod_lt _ (by decide)) (by omega) (by show sT s + 1 + d ≤ 20000; omega) (by omega)
    rw [zup_zup] at q1
    rw [m_X9_seesRow_L65, if_neg (nI_ge (by omega) (by omega))]
    simp only [h.1.o.1, Option.bind_some, p1, nI_1, nI_add]
    rw [show (1000 : Int32) = nI 1000 from rfl, irem_nI (by omega) (by decide) (by decide)]
    exact ⟨F2, q1, q2⟩
/-- what a command does, both sides: it is refused, or done -/
def Cmd (ref : zS → Nat → Option Int32) (act : zS → Nat → Option (Int32 × zS)) (md : zS → Nat → Option (Int32 × zS)) (s : AS) : Prop :=
  (∃ y : Int32, y < 0 ∧ (∀ σ a, St σ a s → ref σ a = some y) ∧ ∀ σ M, Nw σ M s → md σ M = some (y, σ)) ∨
  ∃ (y : Int32) (s' : AS), 0 ≤ y ∧ WS s' ∧ (∀ σ a, St σ a s → ref σ a = some 0) ∧ (∀ σ a, St σ a s → ∃ σ', act σ a = some (y, σ') ∧ St σ' a s' ∧ ∀ x, (x < a ∨ a + 36 ≤ x) → σ' x = σ x) ∧ ∀ σ M, Nw σ M s → ∃ F' : Nat → Int32, md σ M = some (y, zup σ (M + 1) (.inl (1, 6165, .inl F'))) ∧ FR F' s'
theorem many_cases (v : Int32) : (∃ k, 1 ≤ k ∧ k ≤ 100 ∧ v = nI k) ∨ (v < 1 ∨ (¬ v < 1 ∧ ¬ v ≤ 100)) := by
  by_cases c : v < 1
  · exact Or.inr (Or.inl c)
  · by_cases c2 : v ≤ 100
    · obtain ⟨j, hj, e⟩ := nI_of2 (M := 100) (n := 100) rfl (show ¬ v < 0 by
        intro q
        exact c (Int32.lt_trans q (by decide))) c2
      subst e
      refine Or.inl ⟨j, ?_, hj, rfl⟩
      by_cases c0 : j = 0
      · subst c0
        exact absurd (show nI 0 < 1 by decide) c
      · omega
    · exact Or.inr (Or.inr ⟨c, c2⟩)
theorem cmd_row {N : Nat} {s : AS} (hN : 7000 < N) (hW : WS s) (v u w z : Int32) : Cmd (fun σ a => m_X4_refusalOfRow N σ a v u w z) (fun σ a => m_X4_putRow N σ a v u w z) (fun σ M => m_X9_seesRow N σ M v u w z) s := by
  have hM := hW.1
  rcases tbl_cases s hM v with ⟨i, hi, rfl⟩ | hv
  · rcases wi_cases u 999 (by decide) with ⟨x, hx, rfl⟩ | hu
    · rcases wi_cases w 999 (by decide) with ⟨st, hst, rfl⟩ | hw
      · rcases many_cases z with ⟨mn, hmn, hmn2, rfl⟩ | hz
        · by_cases ht : sT s + mn ≤ 20000
          · have hrw := rowS_W (i := i) (st := st) mn s x hW hi (by omega) ht
            have hi' : i < sM (rowS i st mn s x) := by rw [hrw.2]; exact hi
            have hwr := (hrw.1.2.2.2 i hi').1
            have tl := toldN_le _ hwr.1
            refine Or.inr ⟨nI (toldN (sR (rowS i st mn s x) i)), rowS i st mn s x, nI_pos' (by omega), hrw.1, fun σ a h => ?_, fun σ a h => ?_, fun σ M h => ?_⟩
            · dsimp only
              unfold m_X4_refusalOfRow
              simp only [h.o.1, Option.bind_some, h.find_in hM hi, Option.elim_some, (thing_in (show x < 1000 by omega)).1, (thing_in (show st < 1000 by omega)).1, if_neg ne10]
              rw [if_neg (nltlit 1 hmn (by omega)), if_pos (lelit 100 hmn2 (by decide)), h.o.2.2.2.2, Option.bind_some, nI_add, if_pos (lelit 20000 ht (by decide))]
            · obtain ⟨σ1, e1, e2, e3⟩ := X4_putL (N := N) (a := a) (i := i) (st := st) (mn := mn) (by omega) (by omega) hmn2 mn 0 N x σ s h hW hi (by omega) (by omega) ht (by omega)
              have tb := e2.tb hi'
              refine ⟨σ1, ?_, e2, e3⟩
              dsimp only
              unfold m_X4_putRow
              rw [show (0 : Int32) = nI 0 from rfl]
              simp only [h.o.1, Option.bind_some, h.find_in hM hi, Option.elim_some, e1, tb.o.2.1, tb.o.2.2.2.2.2, X3_told (N := N) (by omega) tb.2.1 hwr.1]
            · obtain ⟨F', e1, e2⟩ := X9_seesL (N := N) (M := M) (i := i) (st := st) (mn := mn) (by omega) (by omega) hmn2 mn 0 N x σ s h hW hi (by omega) (by omega) ht (by omega)
              have nw' := h.of e2
              refine ⟨F', ?_, e2⟩
              dsimp only
              unfold m_X9_seesRow
              have z1 : m_X9_in N σ (nI mn) 1 100 = some 1 := by
                unfold m_X9_in
                rw [if_neg (nltlit 1 hmn (by omega)), if_neg (show ¬ (100 : Int32) < nI mn from nI_nlt hmn2 (by decide))]
              have t9 : aI 1 σ (M + 1) 139 = some (nI (sT s)) := by
                obtain ⟨nb, F, nF, fr⟩ := h
                rw [aI_at nF (show (139 : Int32) = nI 139 from rfl) (by decide) (by decide), fr.2.1]
              rw [show (999 : Int32) = nI 999 from rfl]
              simp only [h.1.o.1, Option.bind_some, X9_isTable_in h hM hi, (thing_in (show x < 1000 by omega)).2, if_neg ne10, X9_in_in (show 999 < 2 ^ 30 by decide) hst, z1, h.1.o.2.1, t9, nI_add]
              rw [if_pos (lelit 20000 ht (by decide)), show (0 : Int32) = nI 0 from rfl, e1, Option.bind_some, nw'.1.o.1, Option.bind_some, X9_toldOf (by omega) nw' hrw.1 hi', Option.bind_some]
          · refine Or.inl ⟨-3, by decide, fun σ a h => ?_, fun σ M h => ?_⟩
            · dsimp only
              unfold m_X4_refusalOfRow
              simp only [h.o.1, Option.bind_some, h.find_in hM hi, Option.elim_some, (thing_in (show x < 1000 by omega)).1, (thing_in (show st < 1000 by omega)).1, if_neg ne10]
              have := hW.2.1
              rw [if_neg (nltlit 1 hmn (by omega)), if_pos (lelit 100 hmn2 (by decide)), h.o.2.2.2.2, Option.bind_some, nI_add, if_neg (gtlit 20000 (by omega) (by omega))]
            · dsimp only
              unfold m_X9_seesRow
              have z1 : m_X9_in N σ (nI mn) 1 100 = some 1 := by
                unfold m_X9_in
                rw [if_neg (nltlit 1 hmn (by omega)), if_neg (show ¬ (100 : Int32) < nI mn from nI_nlt hmn2 (by decide))]
              have t9 : aI 1 σ (M + 1) 139 = some (nI (sT s)) := by
                obtain ⟨nb, F, nF, fr⟩ := h
                rw [aI_at nF (show (139 : Int32) = nI 139 from rfl) (by decide) (by decide), fr.2.1]
              have := hW.2.1
              rw [show (999 : Int32) = nI 999 from rfl]
              simp only [h.1.o.1, Option.bind_some, X9_isTable_in h hM hi, (thing_in (show x < 1000 by omega)).2, if_neg ne10, X9_in_in (show 999 < 2 ^ 30 by decide) hst, z1, h.1.o.2.1, t9, nI_add]
              rw [if_neg (gtlit 20000 (by omega) (by omega))]
        · refine Or.inl ⟨-1, by decide, fun σ a h => ?_, fun σ M h => ?_⟩
          · dsimp only
            unfold m_X4_refusalOfRow
            simp only [h.o.1, Option.bind_some, h.find_in hM hi, Option.elim_some, (thing_in (show x < 1000 by omega)).1, (thing_in (show st < 1000 by omega)).1, if_neg ne10]
            rcases hz with hz | ⟨hz, hz2⟩
            · rw [if_pos hz]
            · rw [if_neg hz, if_neg hz2]
          · dsimp only
            unfold m_X9_seesRow
            have z1 : m_X9_in N σ z 1 100 = some 0 := by
              unfold m_X9_in
              rcases hz with hz | ⟨hz, hz2⟩
              · rw [if_pos hz]
              · rw [if_neg hz, if_pos (Int32.not_le.mp hz2)]
            rw [show (999 : Int32) = nI 999 from rfl]
            simp only [h.1.o.1, Option.bind_some, X9_isTable_in h hM hi, (thing_in (show x < 1000 by omega)).2, if_neg ne10, X9_in_in (show 999 < 2 ^ 30 by decide) hst, z1, if_true]
      · refine Or.inl ⟨-1, by decide, fun σ a h => ?_, fun σ M h => ?_⟩
        · dsimp only
          unfold m_X4_refusalOfRow
          simp only [h.o.1, Option.bind_some, h.find_in hM hi, Option.elim_some, (thing_in (show x < 1000 by omega)).1, (thing_out hw).1, if_neg ne10, if_true]
        · dsimp only
          unfold m_X9_seesRow
          rw [show (999 : Int32) = nI 999 from rfl]
          simp only [h.1.o.1, Option.bind_some, X9_isTable_in h hM hi, (thing_in (show x < 1000 by omega)).2, if_neg ne10, X9_in_out hw, if_true]
    · refine Or.inl ⟨-1, by decide, fun σ a h => ?_, fun σ M h => ?_⟩
      · dsimp only
        unfold m_X4_refusalOfRow
        simp only [h.o.1, Option.bind_some, h.find_in hM hi, Option.elim_some, (thing_out hu).1, if_true]
      · dsimp only
        unfold m_X9_seesRow
        simp only [h.1.o.1, Option.bind_some, X9_isTable_in h hM hi, (thing_out hu).2, if_neg ne10, if_true]
  · refine Or.inl ⟨-1, by decide, fun σ a h => ?_, fun σ M h => ?_⟩
    · dsimp only
      unfold m_X4_refusalOfRow
      simp only [h.o.1, Option.bind_some, h.find_out hv, Option.elim_none]
    · dsimp only
      unfold m_X9_seesRow
      simp only [h.1.o.1, Option.bind_some, X9_isTable_out h hM hv, if_true]
