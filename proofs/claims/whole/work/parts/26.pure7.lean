/-! Pure, 7: keptAt, sawAt, hash, logAt -/
theorem litge {x : Nat} (K : Nat) (h : x < K) (hK : K < 2 ^ 31) : ¬ (OfNat.ofNat K : Int32) ≤ nI x := nI_ge h hK
theorem litle {x : Nat} (K : Nat) (h : K ≤ x) (hx : x < 2 ^ 31) : (OfNat.ofNat K : Int32) ≤ nI x := nI_le h hx
theorem lelit {x : Nat} (K : Nat) (h : x ≤ K) (hK : K < 2 ^ 31) : nI x ≤ (OfNat.ofNat K : Int32) := nI_le h hK
theorem gtlit {x : Nat} (K : Nat) (h : K < x) (hx : x < 2 ^ 31) : ¬ nI x ≤ (OfNat.ofNat K : Int32) := nI_ge h hx
theorem ltlit {x : Nat} (K : Nat) (h : x < K) (hK : K < 2 ^ 31) : nI x < (OfNat.ofNat K : Int32) := nI_lt h hK
theorem nltlit {x : Nat} (K : Nat) (h : K ≤ x) (hx : x < 2 ^ 31) : ¬ nI x < (OfNat.ofNat K : Int32) := nI_nlt h hx
theorem ne10 : ¬ (1 : Int32) = 0 := by decide
theorem kept_bit (x : Int32) {j : Nat} (hj : j < 32) : (iushr x (nI j)) &&& 1 = (x >>> (nI j &&& 31)) &&& 1 := by
  rw [lit_bit x hj]
  unfold iushr
  rw [show (1 : Int32) = nI 1 from rfl, pk_and _ 1 (by decide), pk_ushr x (nI j) j (s_u j hj)]
theorem op_keptAt {N : Nat} {σ : zS} {b M n len : Nat} {s : AS} {H : Nat → AS} {T : Nat → Int32} (hN : 7000 < N) (hW : WH s n H T len) (hC : CR σ b s n H T len) (hR : MR σ M s n H T len) (v w : Int32) : ∃ y, m_X8_keptAt N σ b v w = some y ∧ m_X9_keptAt N σ M v w = some y := by
  have hws := hW.1
  have nw := hR.nw
  have st := hC.2.1
  unfold m_X8_keptAt m_X9_keptAt
  rw [hC.o.2.1, Option.bind_some, st.o.1, Option.bind_some, nw.1.o.1, Option.bind_some]
  rcases tbl_cases s hws.1 v with ⟨i, hi, rfl⟩ | hv
  · have hw := (hws.2.2.2 i hi).1
    have tb := st.tb hi
    have rw' := nw.row hws.1 hi
    rw [st.find_in hws.1 hi, Option.bind_some, Option.elim_some, X9_isTable_in nw hws.1 hi, Option.bind_some, if_neg ne10, tb.o.2.1, Option.bind_some, tb.o.2.2.2.2.2, Option.bind_some]
    unfold m_X3_partAt
    by_cases c : 0 ≤ w
    · obtain ⟨k, hk, rfl⟩ := nI_of (Int32.not_lt.mpr c)
      have hk5 := hw.1.kt
      rw [if_pos c, if_pos c, show (23 : Int32) = nI 23 from rfl, pk_mul]
      simp only [Option.bind_some, tb.2.1.fld.1, nw.1.o.2.1, rw'.rd (j := 0) (x := nI (23 * i) + 0) (by omega) (by simp only [nlit, nI_add])]
      obtain ⟨hs, rg, h1, h2, h3, h4, h5⟩ := tb.2.1
      by_cases h0 : sR s i 0 = 0
      · rw [if_pos h0, if_pos h0]
        by_cases ck : k ≤ 31
        · rw [if_neg (litge 32 (by omega) (by decide)), if_pos (lelit 31 ck (by decide)), gI_at h1 rfl, Option.bind_some, Option.bind_some, rw'.rd (j := 4) (by omega) (by simp only [nlit, nI_add]), Option.bind_some, kept_bit _ (by omega)]
          exact ⟨_, rfl, rfl⟩
        · rw [if_pos (litle 32 (by omega) (by omega)), if_neg (gtlit 31 (by omega) (by omega)), Option.bind_some]
          exact ⟨_, rfl, rfl⟩
      · rw [if_neg h0, if_neg h0]
        by_cases h6 : sR s i 0 = 1
        · rw [if_pos h6, if_pos h6, gI_at h1 rfl, Option.bind_some, rw'.rd (j := 5) (by omega) (by simp only [nlit, nI_add]), Option.bind_some, hk5.2]
          by_cases ck : ktN (sR s i) ≤ k
          · rw [if_pos (le_pos ck (by omega)), if_pos (le_pos ck (by omega)), Option.bind_some]
            exact ⟨_, rfl, rfl⟩
          · rw [if_neg (le_neg (by omega) (by omega)), if_neg (le_neg (by omega) (by omega)), if_neg (litge 8 (by omega) (by decide)), gA_at h1 rfl, Option.bind_some, aI_at h2 rfl (by omega) (by decide), Option.bind_some, Option.bind_some, h4 k (by omega) (by rw [hk5.2]; exact nI_lt (by omega) (by omega)), rw'.rd (j := 6 + k) (by omega) (by simp only [nlit, nI_add]; congr 1; omega), Option.bind_some]
            exact ⟨_, rfl, rfl⟩
        · rw [if_neg h6, if_neg h6]
          by_cases ck : k ≤ 7
          · rw [if_neg (litge 8 (by omega) (by decide)), if_pos (lelit 7 ck (by decide)), gA_at h1 rfl, Option.bind_some, aI_at h3 rfl (by omega) (by decide), Option.bind_some, Option.bind_some, h5 k (by omega), rw'.rd (j := 14 + k) (by omega) (by simp only [nlit, nI_add]; congr 1; omega), Option.bind_some]
            exact ⟨_, rfl, rfl⟩
          · rw [if_pos (litle 8 (by omega) (by omega)), if_neg (gtlit 7 (by omega) (by omega)), Option.bind_some]
            exact ⟨_, rfl, rfl⟩
    · rw [if_neg c, if_neg c, Option.bind_some]
      exact ⟨_, rfl, rfl⟩
  · rw [st.find_out hv, Option.bind_some, Option.elim_none, X9_isTable_out nw hws.1 hv, Option.bind_some, if_pos rfl]
    exact ⟨_, rfl, rfl⟩
-- times
theorem tm_eq {k : Nat} (hk : k < 2 ^ 30) : (nI k - 1 = -1 ↔ k = 0) ∧ (nI k ≤ 0 ↔ k = 0) ∧ (nI k = 0 ↔ k = 0) := by
  refine ⟨⟨fun h => ?_, fun h => by subst h; rfl⟩, ⟨fun h => ?_, fun h => by subst h; decide⟩, ⟨fun h => ?_, fun h => by subst h; rfl⟩⟩
  · by_cases c : k = 0
    · exact c
    · rw [show (1 : Int32) = nI 1 from rfl, pk_sub (by omega)] at h
      exact absurd (h ▸ nI_pos' (n := k - 1) (by omega)) (by decide)
  · by_cases c : k = 0
    · exact c
    · exact absurd h (nI_nle (by omega) (by omega))
  · by_cases c : k = 0
    · exact c
    · exact absurd h (nI_ne0 (by omega) (by omega))
theorem WT.tm {t : Nat} {r g : Nat → Int32} (h : WT t r g) (ht : t ≤ 20000) {x : Nat} (hx : x < 1000) : (g x - 1 = -1 ↔ g x = 0) ∧ (g x ≤ 0 ↔ g x = 0) := by
  obtain ⟨k, hk, e⟩ := h.2.2 x hx
  have := tm_eq (k := k) (by omega)
  rw [e]
  exact ⟨this.1.trans this.2.2.symm, this.2.1.trans this.2.2.symm⟩
theorem Tb.time {σ : zS} {q x : Nat} {r g : Nat → Int32} (h : Tb σ q r g) (hx : x < 1000) : aI 1 σ (q + 4) (nI x) = some (g x - 1) := by
  obtain ⟨h1, h2, f, h3, h4⟩ := h
  rw [aI_at h3 rfl hx (by decide), h4 x hx]
/-- the thing at a place of those seen -/
def thS (g : Nat → Int32) (v : Int32) : Nat → Nat → Int32 → Option Nat
  | 0, _, _ => none
  | d + 1, x, c => if g x = 0 then thS g v d (x + 1) c else if c = v then some x else thS g v d (x + 1) (c + 1)
theorem thS_in (g : Nat → Int32) (v : Int32) : ∀ d x c y, thS g v d x c = some y → x ≤ y ∧ y < x + d
  | 0, _, _, _, h => by cases h
  | d + 1, x, c, y, h => by
    rw [thS] at h
    split at h
    · have := thS_in g v d _ _ _ h
      omega
    · split at h
      · cases h
        omega
      · have := thS_in g v d _ _ _ h
        omega
theorem X5_thingAt_L {N t : Nat} {σ : zS} {q : Nat} {r g : Nat → Int32} (h : Tb σ q r g) (hw : WT t r g) (ht : t ≤ 20000) (v : Int32) : ∀ d x n c, x + d = 1000 → d < n → m_X5_thingAt_L4 N n σ q v c (nI x) = some (match thS g v d x c with | some y => .inl (nI y) | none => .inr ()) := by
  intro d
  induction d with
  | zero =>
    intro x n c hx hn
    obtain ⟨n, rfl⟩ : ∃ m, n = m + 1 := ⟨n - 1, by omega⟩
    rw [m_X5_thingAt_L4, if_pos (by rw [show x = 1000 by omega]; decide)]
    rfl
  | succ d ih =>
    intro x n c hx hn
    obtain ⟨n, rfl⟩ : ∃ m, n = m + 1 := ⟨n - 1, by omega⟩
    have tm := (hw.tm ht (x := x) (by omega)).1
    rw [m_X5_thingAt_L4, if_neg (litge 1000 (by omega) (by decide)), h.o.2.2.1, Option.bind_some, h.time (by omega), Option.bind_some, thS]
    by_cases c0 : g x = 0
    · rw [if_pos (tm.mpr c0), if_pos c0, Option.bind_some, nI_1, ih (x + 1) n c (by omega) (by omega)]
    · rw [if_neg (fun q => c0 (tm.mp q)), if_neg c0]
      by_cases cv : c = v
      · rw [if_pos cv, if_pos cv]
      · rw [if_neg cv, if_neg cv, Option.bind_some, Option.bind_some, nI_1, ih (x + 1) n (c + 1) (by omega) (by omega)]
theorem X9_sawAt_L {N i : Nat} {σ : zS} {M : Nat} {s : AS} (h : Nw σ M s) (hW : WS s) (hi : i < sM s) (v w : Int32) : ∀ d x n c, x + d = 1000 → d < n → m_X9_sawAt_L29 N n σ M (nI i) v w c (nI x) = some (match thS (sG s i) v d x c with | some y => .inl (if w = 0 then nI y else sG s i y - 1) | none => .inr ()) := by
  have hw := hW.2.2.2 i hi
  intro d
  induction d with
  | zero =>
    intro x n c hx hn
    obtain ⟨n, rfl⟩ : ∃ m, n = m + 1 := ⟨n - 1, by omega⟩
    rw [m_X9_sawAt_L29, if_pos (by rw [show x = 1000 by omega]; decide)]
    rfl
  | succ d ih =>
    intro x n c hx hn
    obtain ⟨n, rfl⟩ : ∃ m, n = m + 1 := ⟨n - 1, by omega⟩
    have tm := (hw.tm hW.2.1 (x := x) (by omega)).2
    have z : ∀ e : Int32, e + 0 = e := Int32.add_zero
    rw [m_X9_sawAt_L29, if_neg (litge 1000 (by omega) (by decide)), h.1.o.2.1, Option.bind_some, h.seen hW.1 hi (x := x) (by omega) (by simp only [nlit, pk_mul, nI_add]), Option.bind_some, thS]
    by_cases c0 : sG s i x = 0
    · rw [if_pos (tm.mpr c0), if_pos c0, if_pos (tm.mpr c0), Option.bind_some, Option.bind_some, Option.bind_some, nI_1, Int32.add_zero, ih (x + 1) n c (by omega) (by omega)]
    · rw [if_neg (fun q => c0 (tm.mp q)), if_neg c0]
      by_cases cv : c = v
      · rw [if_pos cv, if_pos cv]
        by_cases cw : w = 0
        · simp only [cw, if_true]
        · simp only [cw, if_false]
      · rw [if_neg cv, if_neg cv, if_neg (fun q => c0 (tm.mp q)), Option.bind_some, Option.bind_some, Option.bind_some, nI_1, ih (x + 1) n (c + 1) (by omega) (by omega)]
theorem op_sawAt {N : Nat} {σ : zS} {b M n len : Nat} {s : AS} {H : Nat → AS} {T : Nat → Int32} (hN : 7000 < N) (hW : WH s n H T len) (hC : CR σ b s n H T len) (hR : MR σ M s n H T len) (v u w : Int32) : ∃ y, m_X8_sawAt N σ b v u w = some y ∧ m_X9_sawAt N σ M v u w = some y := by
  have hws := hW.1
  have nw := hR.nw
  have st := hC.2.1
  unfold m_X8_sawAt m_X9_sawAt
  rw [hC.o.2.1, Option.bind_some, st.o.1, Option.bind_some, nw.1.o.1, Option.bind_some]
  rcases tbl_cases s hws.1 v with ⟨i, hi, rfl⟩ | hv
  · have hw := hws.2.2.2 i hi
    have tb := st.tb hi
    rw [st.find_in hws.1 hi, Option.bind_some, Option.elim_some, X9_isTable_in nw hws.1 hi, Option.bind_some, if_neg ne10]
    by_cases cu : u < 0
    · rw [if_pos cu, if_pos cu]
      exact ⟨_, rfl, rfl⟩
    · rw [if_neg cu, if_neg cu, show (1 : Int32) = nI 1 from rfl]
      rcases wi_cases w 1 (by decide) with ⟨k, hk, rfl⟩ | hw9
      · rw [X8_within_in (by decide) hk, Option.bind_some, if_neg ne10, X9_in_in (by decide) hk, Option.bind_some, if_neg ne10, tb.o.1, Option.bind_some]
        unfold m_X5_thingAt
        have e1 := X5_thingAt_L (N := N) tb hw hws.2.1 u 1000 0 N 0 rfl (by omega)
        have e2 := X9_sawAt_L (N := N) nw hws hi u (nI k) 1000 0 N 0 rfl (by omega)
        rw [nI_0] at e1 e2
        rw [e1, e2]
        cases hth : thS (sG s i) u 1000 0 0 with
        | none =>
          refine ⟨-4, ?_, rfl⟩
          show (some (-1 : Int32)).bind _ = _
          rw [Option.bind_some, if_pos (by rfl)]
        | some x =>
          have hx := thS_in _ _ _ _ _ _ hth
          refine ⟨if nI k = 0 then nI x else sG s i x - 1, ?_, rfl⟩
          show (some (nI x)).bind _ = _
          rw [Option.bind_some, if_neg (by intro q; exact absurd (q ▸ nI_pos' (n := x) (by omega)) (by decide))]
          by_cases ck : nI k = 0
          · rw [if_pos ck, if_pos ck]
          · rw [if_neg ck, if_neg ck, Option.bind_some]
            unfold m_X5_timeOf
            rw [(thing_in (by omega)).1, Option.bind_some, if_neg ne10, tb.o.2.2.1, Option.bind_some, tb.time (by omega), Option.bind_some, Option.bind_some]
      · rw [X8_within_out hw9, Option.bind_some, if_pos rfl, X9_in_out hw9, Option.bind_some, if_pos rfl]
        exact ⟨_, rfl, rfl⟩
  · rw [st.find_out hv, Option.bind_some, Option.elim_none, X9_isTable_out nw hws.1 hv, Option.bind_some, if_pos rfl]
    exact ⟨_, rfl, rfl⟩
theorem op_hash {N : Nat} {σ : zS} {b M n len : Nat} {s : AS} {H : Nat → AS} {T : Nat → Int32} (hN : 7000 < N) (hW : WH s n H T len) (hC : CR σ b s n H T len) (hR : MR σ M s n H T len) (v w : Int32) : ∃ y, m_X8_hash N σ b v w = some y ∧ m_X9_hash N σ M v w = some y := by
  unfold m_X8_hash m_X9_hash
  rcases wi_cases v 999 (by decide) with ⟨t, ht, rfl⟩ | hv
  · rw [(thing_in (by omega)).1, (thing_in (by omega)).2, Option.bind_some, Option.bind_some, if_neg (by decide), if_neg (by decide), show (9 : Int32) = nI 9 from rfl]
    rcases wi_cases w 9 (by decide) with ⟨k, hk, rfl⟩ | hw9
    · rw [X8_within_in (by decide) hk, Option.bind_some, if_neg ne10, X9_in_in (by decide) hk, Option.bind_some, if_neg (by decide), X8_hashOf (by omega) hk, X9_hashOf (by omega) hk, Option.bind_some]
      exact ⟨_, rfl, rfl⟩
    · rw [X8_within_out hw9, Option.bind_some, if_pos rfl, X9_in_out hw9, Option.bind_some, if_pos rfl]
      exact ⟨_, rfl, rfl⟩
  · rw [(thing_out hv).1, (thing_out hv).2, Option.bind_some, Option.bind_some, if_pos rfl, if_pos rfl]
    exact ⟨_, rfl, rfl⟩
theorem op_logAt {N : Nat} {σ : zS} {b M n len : Nat} {s : AS} {H : Nat → AS} {T : Nat → Int32} (hN : 7000 < N) (hW : WH s n H T len) (hC : CR σ b s n H T len) (hR : MR σ M s n H T len) (v w : Int32) : ∃ y, m_X8_logAt N σ b v w = some y ∧ m_X9_logAt N σ M v w = some y := by
  have hws := hW.1
  have st := hC.2.1
  obtain ⟨nb, F, nF, fr⟩ := hR.nw
  unfold m_X8_logAt m_X9_logAt
  by_cases c : v < 0
  · rw [if_pos c, if_pos c]
    exact ⟨_, rfl, rfl⟩
  · rw [if_neg c, if_neg c, show (2 : Int32) = nI 2 from rfl]
    rcases wi_cases w 2 (by decide) with ⟨k, hk, rfl⟩ | hw2
    · obtain ⟨j, hj, rfl⟩ := nI_of c
      obtain ⟨l1, f0, f1, f2, l2, l3, l4, l5⟩ := st.2.2.1
      rw [X8_within_in (by decide) hk, Option.bind_some, if_neg ne10, X9_in_in (by decide) hk, Option.bind_some, if_neg (by decide), hC.o.2.1, Option.bind_some, st.o.2.2.1, Option.bind_some, isO_at l1, Option.bind_some, nb.o.2.1, Option.bind_some, Option.bind_some, aI_at nF (show (140 : Int32) = nI 140 from rfl) (by decide) (by decide), Option.bind_some, fr.2.2.1]
      unfold m_X2_entry
      have hl := hws.2.2.1
      rw [if_neg c, gI_at l1 rfl, Option.bind_some]
      by_cases cj : sL s ≤ j
      · rw [if_pos (nI_le cj hj), if_pos (nI_le cj hj), Option.bind_some]
        exact ⟨_, rfl, rfl⟩
      · rw [if_neg (nI_ge (by omega) (by omega)), if_neg (nI_ge (by omega) (by omega)), if_pos (ltlit 8 (by omega) (by decide))]
        have e5 := l5 j (by omega) (by omega)
        simp only [Option.bind_some, aI_at nF (show (140 : Int32) = nI 140 from rfl) (by decide) (by decide), fr.2.2.1]
        have ef := fr.2.2.2.2 j (by omega) k (by omega)
        rw [aI_at nF (k := 141 + 3 * (sL s - 1 - j) + k) (by rw [show (141 : Int32) = nI 141 from rfl, show (3 : Int32) = nI 3 from rfl, show (1 : Int32) = nI 1 from rfl, pk_sub (by omega), pk_sub (by omega), pk_mul, nI_add, nI_add]) (by omega) (by decide), Option.bind_some, ef]
        have : k = 0 ∨ k = 1 ∨ k = 2 := by omega
        rcases this with rfl | rfl | rfl
        · rw [if_pos (by rfl), gA_at l1 rfl, Option.bind_some, aI_at l2 rfl (by omega) (by decide), Option.bind_some, Option.bind_some, e5.1]
          exact ⟨_, rfl, rfl⟩
        · rw [if_neg (by decide), if_pos (by rfl), gA_at l1 rfl, Option.bind_some, aI_at l3 rfl (by omega) (by decide), Option.bind_some, Option.bind_some, e5.2.1]
          exact ⟨_, rfl, rfl⟩
        · rw [if_neg (by decide), if_neg (by decide), gA_at l1 rfl, Option.bind_some, aI_at l4 rfl (by omega) (by decide), Option.bind_some, Option.bind_some, e5.2.2]
          exact ⟨_, rfl, rfl⟩
    · rw [X8_within_out hw2, Option.bind_some, if_pos rfl, X9_in_out hw2, Option.bind_some, if_pos rfl]
      exact ⟨_, rfl, rfl⟩
