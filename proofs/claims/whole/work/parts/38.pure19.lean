/-! Pure, 19: commands, changes, undo, type, clearText -/
def Cm (σ : zS) (q : Nat) (c e : Int32) (f : Nat → Int32) : Prop := σ q = some (.inr (0, [.ref (q + 1), .int c, .int e])) ∧ σ (q + 1) = some (.inl (1, 4, .inl f))
theorem Cm.num {N : Nat} {σ : zS} {q k : Nat} {c e : Int32} {f : Nat → Int32} (h : Cm σ q c e f) (hk : k < 4) : m_X0_numberAt N σ q (nI k) = some (f k) := by
  unfold m_X0_numberAt
  rw [if_neg (nI_pos (by omega)), gA_at h.1 rfl, Option.bind_some, aL_at h.2, Option.bind_some, if_neg (nI_ge hk (by decide)), Option.bind_some, aI_at h.2 rfl hk (by decide), Option.bind_some]
theorem Cm.o {σ : zS} {q : Nat} {c e : Int32} {f : Nat → Int32} (h : Cm σ q c e f) : isO σ 0 q = some () ∧ gI σ 0 1 q = some c ∧ gI σ 0 2 q = some e ∧ gA σ 0 0 q = some (q + 1) := ⟨isO_at h.1, gI_at h.1 rfl, gI_at h.1 rfl, gA_at h.1 rfl⟩
theorem Cm.cd {σ : zS} {q : Nat} {c e : Int32} {f : Nat → Int32} (h : Cm σ q c e f) : Cd σ q := ⟨c, e, f, h.1, h.2⟩
theorem Cm.keep {σ σ' : zS} {q : Nat} {c e : Int32} {f : Nat → Int32} (h : Cm σ q c e f) (hk : ∀ x, q ≤ x → x < q + 2 → σ' x = σ x) : Cm σ' q c e f := ⟨by rw [hk _ (by omega) (by omega)]; exact h.1, by rw [hk _ (by omega) (by omega)]; exact h.2⟩
theorem X0_put {N : Nat} {σ : zS} {q : Nat} {c v w : Int32} (hc : ckC c = some c) (h : Cd σ q) : ∃ (σ' : zS) (e : Int32) (f : Nat → Int32), m_X0_put N σ q c v w = some σ' ∧ Cm σ' q c e f ∧ f 0 = v ∧ f 1 = w ∧ ∀ x, (x < q ∨ q + 2 ≤ x) → σ' x = σ x := by
  obtain ⟨c0, e, f, h1, h2⟩ := h
  have z0 : ∀ en x, x ≠ q → zup σ q en x = σ x := fun en x hx => zup_ne _ _ hx
  have z1 : ∀ (σ' : zS) en x, x ≠ q + 1 → zup σ' (q + 1) en x = σ' x := fun σ' en x hx => zup_ne _ _ hx
  unfold m_X0_put
  rw [hc, Option.bind_some, sI_at h1 (Nat.le_of_ble_eq_true rfl), Option.bind_some, gA_at (zup_same _ _ _) rfl, Option.bind_some, uI_at (x := 0) (k := 0) ((z0 _ (q + 1) (by omega)).trans h2) rfl (by decide) (by decide), Option.bind_some, gA_at ((z1 _ _ q (by omega)).trans (zup_same _ _ _)) rfl, Option.bind_some, uI_at (x := 1) (k := 1) (zup_same _ _ _) rfl (by decide) (by decide), Option.bind_some, zup_zup]
  refine ⟨_, e, upd (upd f 0 v) 1 w, rfl, ⟨?_, zup_same _ _ _⟩, ?_, upd_same _ _ _, fun x hx => by rw [zup_ne _ _ (by omega), zup_ne _ _ (by omega)]⟩
  · rw [zup_ne _ _ (by omega), zup_same]
    rfl
  · rw [upd_ne _ _ (by decide), upd_same]
theorem X0_putMore {N : Nat} {σ : zS} {q : Nat} {c e v w : Int32} {f : Nat → Int32} (h : Cm σ q c e f) : ∃ (σ' : zS) (f' : Nat → Int32), m_X0_putMore N σ q v w = some σ' ∧ Cm σ' q c e f' ∧ f' 0 = f 0 ∧ f' 1 = f 1 ∧ f' 2 = v ∧ f' 3 = w ∧ ∀ x, (x < q ∨ q + 2 ≤ x) → σ' x = σ x := by
  have z1 : ∀ (σ' : zS) en x, x ≠ q + 1 → zup σ' (q + 1) en x = σ' x := fun σ' en x hx => zup_ne _ _ hx
  unfold m_X0_putMore
  rw [h.o.2.2.2, Option.bind_some, uI_at (x := 2) (k := 2) h.2 rfl (by decide) (by decide), Option.bind_some, gA_at ((z1 _ _ q (by omega)).trans h.1) rfl, Option.bind_some, uI_at (x := 3) (k := 3) (zup_same _ _ _) rfl (by decide) (by decide), Option.bind_some, zup_zup]
  refine ⟨_, upd (upd f 2 v) 3 w, rfl, ⟨(z1 _ _ q (by omega)).trans h.1, zup_same _ _ _⟩, ?_, ?_, ?_, upd_same _ _ _, fun x hx => zup_ne _ _ (by omega)⟩
  · rw [upd_ne _ _ (by decide), upd_ne _ _ (by decide)]
  · rw [upd_ne _ _ (by decide), upd_ne _ _ (by decide)]
  · rw [upd_ne _ _ (by decide), upd_same]
def mdOf (N : Nat) (c n0 n1 n2 n3 : Int32) (σ : zS) (M : Nat) : Option (Int32 × zS) := if c = 97 then m_X9_seesRow N σ M n0 n1 0 1 else if c = 107 then m_X9_makeTable N σ M n0 n1 else if c = 109 then m_X9_mergesInto N σ M n0 n1 else if c = 115 then m_X9_seesRow N σ M n0 n1 n2 n3 else m_X9_resetsOne N σ M n0
def CmdQ (N : Nat) (c : Int32) (f : Nat → Int32) (s : AS) : Prop :=
  (∃ y : Int32, y < 0 ∧ (∀ σ a q e, Cm σ q c e f → St σ a s → m_X4_refusalOf N σ a q = some y) ∧ ∀ σ M, Nw σ M s → mdOf N c (f 0) (f 1) (f 2) (f 3) σ M = some (y, σ)) ∨
  ∃ (y : Int32) (s' : AS), 0 ≤ y ∧ WS s' ∧ (∀ σ a q e, Cm σ q c e f → St σ a s → m_X4_refusalOf N σ a q = some 0) ∧ (∀ σ a q e, Cm σ q c e f → St σ a s → ∃ σ', m_X4_carryOut N σ a q = some (y, σ') ∧ St σ' a s' ∧ ∀ x, (x < a ∨ a + 36 ≤ x) → σ' x = σ x) ∧ ∀ σ M, Nw σ M s → ∃ F' : Nat → Int32, mdOf N c (f 0) (f 1) (f 2) (f 3) σ M = some (y, zup σ (M + 1) (.inl (1, 6165, .inl F'))) ∧ FR F' s'
theorem CmdQ.of {N : Nat} {c : Int32} {f : Nat → Int32} {s : AS} {ref : zS → Nat → Option Int32} {act md : zS → Nat → Option (Int32 × zS)} (h : Cmd ref act md s) (h1 : ∀ σ a q e y, Cm σ q c e f → St σ a s → ref σ a = some y → m_X4_refusalOf N σ a q = some y) (h2 : ∀ σ a q e y σ', Cm σ q c e f → St σ a s → act σ a = some (y, σ') → m_X4_carryOut N σ a q = some (y, σ')) (h3 : ∀ σ M, mdOf N c (f 0) (f 1) (f 2) (f 3) σ M = md σ M) : CmdQ N c f s := by
  rcases h with ⟨y, a1, a2, a3⟩ | ⟨y, s', a1, a2, a3, a4, a5⟩
  · exact Or.inl ⟨y, a1, fun σ a q e hq hs => h1 σ a q e y hq hs (a2 σ a hs), fun σ M hn => by rw [h3, a3 σ M hn]⟩
  · refine Or.inr ⟨y, s', a1, a2, fun σ a q e hq hs => h1 σ a q e 0 hq hs (a3 σ a hs), fun σ a q e hq hs => ?_, fun σ M hn => by rw [h3]; exact a5 σ M hn⟩
    obtain ⟨σ', b1, b2, b3⟩ := a4 σ a hs
    exact ⟨σ', h2 σ a q e y σ' hq hs b1, b2, b3⟩
theorem cmdQ {N : Nat} {s : AS} (hN : 7000 < N) (hW : WS s) (c : Int32) (f : Nat → Int32) : CmdQ N c f s := by
  have n0 : ∀ σ q e, Cm σ q c e f → m_X0_numberAt N σ q 0 = some (f 0) := fun σ q e h => h.num (k := 0) (by omega)
  have n1 : ∀ σ q e, Cm σ q c e f → m_X0_numberAt N σ q 1 = some (f 1) := fun σ q e h => h.num (k := 1) (by omega)
  have n2 : ∀ σ q e, Cm σ q c e f → m_X0_numberAt N σ q 2 = some (f 2) := fun σ q e h => h.num (k := 2) (by omega)
  have n3 : ∀ σ q e, Cm σ q c e f → m_X0_numberAt N σ q 3 = some (f 3) := fun σ q e h => h.num (k := 3) (by omega)
  by_cases c1 : c = 97
  · refine CmdQ.of (cmd_row (N := N) hN hW (f 0) (f 1) 0 1) (fun σ a q e y hq hs hy => ?_) (fun σ a q e y σ' hq hs hy => ?_) (fun σ M => ?_)
    · unfold m_X4_refusalOf
      rw [hq.o.1, Option.bind_some, n0 σ q e hq, Option.bind_some, Option.bind_some, n1 σ q e hq, Option.bind_some, hq.o.2.1, Option.bind_some, if_pos c1, hs.o.1, Option.bind_some, hy, Option.bind_some]
    · unfold m_X4_carryOut
      rw [hq.o.1, Option.bind_some, n0 σ q e hq, Option.bind_some, Option.bind_some, n1 σ q e hq, Option.bind_some, hq.o.2.1, Option.bind_some, if_pos c1, hs.o.1, Option.bind_some, hy, b2_some]
    · unfold mdOf
      rw [if_pos c1]
  · by_cases c2 : c = 107
    · refine CmdQ.of (cmd_make (N := N) hN hW (f 0) (f 1)) (fun σ a q e y hq hs hy => ?_) (fun σ a q e y σ' hq hs hy => ?_) (fun σ M => ?_)
      · unfold m_X4_refusalOf
        rw [hq.o.1, Option.bind_some, n0 σ q e hq, Option.bind_some, Option.bind_some, n1 σ q e hq, Option.bind_some, hq.o.2.1, Option.bind_some, if_neg c1, if_pos c2, hs.o.1, Option.bind_some, hy, Option.bind_some]
      · unfold m_X4_carryOut
        rw [hq.o.1, Option.bind_some, n0 σ q e hq, Option.bind_some, Option.bind_some, n1 σ q e hq, Option.bind_some, hq.o.2.1, Option.bind_some, if_neg c1, if_pos c2, hs.o.1, Option.bind_some, hy, b2_some]
      · unfold mdOf
        rw [if_neg c1, if_pos c2]
    · by_cases c3 : c = 109
      · refine CmdQ.of (cmd_merge (N := N) hN hW (f 0) (f 1)) (fun σ a q e y hq hs hy => ?_) (fun σ a q e y σ' hq hs hy => ?_) (fun σ M => ?_)
        · unfold m_X4_refusalOf
          rw [hq.o.1, Option.bind_some, n0 σ q e hq, Option.bind_some, Option.bind_some, n1 σ q e hq, Option.bind_some, hq.o.2.1, Option.bind_some, if_neg c1, if_neg c2, if_pos c3, hs.o.1, Option.bind_some, hy, Option.bind_some]
        · unfold m_X4_carryOut
          rw [hq.o.1, Option.bind_some, n0 σ q e hq, Option.bind_some, Option.bind_some, n1 σ q e hq, Option.bind_some, hq.o.2.1, Option.bind_some, if_neg c1, if_neg c2, if_pos c3, hs.o.1, Option.bind_some, hy, b2_some]
        · unfold mdOf
          rw [if_neg c1, if_neg c2, if_pos c3]
      · by_cases c4 : c = 115
        · refine CmdQ.of (cmd_row (N := N) hN hW (f 0) (f 1) (f 2) (f 3)) (fun σ a q e y hq hs hy => ?_) (fun σ a q e y σ' hq hs hy => ?_) (fun σ M => ?_)
          · unfold m_X4_refusalOf
            rw [hq.o.1, Option.bind_some, n0 σ q e hq, Option.bind_some, Option.bind_some, n1 σ q e hq, Option.bind_some, hq.o.2.1, Option.bind_some, if_neg c1, if_neg c2, if_neg c3, if_pos c4, Option.bind_some, n2 σ q e hq, Option.bind_some, Option.bind_some, n3 σ q e hq, Option.bind_some, hs.o.1, Option.bind_some, hy, Option.bind_some]
          · unfold m_X4_carryOut
            rw [hq.o.1, Option.bind_some, n0 σ q e hq, Option.bind_some, Option.bind_some, n1 σ q e hq, Option.bind_some, hq.o.2.1, Option.bind_some, if_neg c1, if_neg c2, if_neg c3, if_pos c4, Option.bind_some, n2 σ q e hq, Option.bind_some, Option.bind_some, n3 σ q e hq, Option.bind_some, hs.o.1, Option.bind_some, hy, b2_some]
          · unfold mdOf
            rw [if_neg c1, if_neg c2, if_neg c3, if_pos c4]
        · refine CmdQ.of (cmd_reset (N := N) hN hW (f 0)) (fun σ a q e y hq hs hy => ?_) (fun σ a q e y σ' hq hs hy => ?_) (fun σ M => ?_)
          · unfold m_X4_refusalOf
            rw [hq.o.1, Option.bind_some, n0 σ q e hq, Option.bind_some, Option.bind_some, n1 σ q e hq, Option.bind_some, hq.o.2.1, Option.bind_some, if_neg c1, if_neg c2, if_neg c3, if_neg c4]
            exact hy
          · unfold m_X4_carryOut
            rw [hq.o.1, Option.bind_some, n0 σ q e hq, Option.bind_some, Option.bind_some, n1 σ q e hq, Option.bind_some, hq.o.2.1, Option.bind_some, if_neg c1, if_neg c2, if_neg c3, if_neg c4, hs.o.1, Option.bind_some, hy, b2_some]
          · unfold mdOf
            rw [if_neg c1, if_neg c2, if_neg c3, if_neg c4]
-- changes
theorem CR.upd {σ σ' : zS} {b n n' len : Nat} {s s' : AS} {H H' : Nat → AS} {T : Nat → Int32} (h : CR σ b s n H T len) (hk : ∀ x, (x = b ∨ (b + 183 ≤ x ∧ x < b + 229)) → σ' x = σ x) (hs : St σ' (b + 1) s') (hh : Hi σ' b n' H') : CR σ' b s' n' H' T len := by
  obtain ⟨h1, h2, h3, ⟨h4, f, h5, h6⟩, h7, ⟨d, a, re, ca, h8⟩, h9, h10, r, h11⟩ := h
  exact ⟨by rw [hk _ (by omega)]; exact h1, hs, hh, ⟨by rw [hk _ (by omega)]; exact h4, f, by rw [hk _ (by omega)]; exact h5, h6⟩, h7.keep (fun x _ _ => hk x (by omega)), ⟨d, a, re, ca, by rw [hk _ (by omega)]; exact h8⟩, h9.keep (fun x _ _ => hk x (by omega)), h10.keep (fun x _ _ => hk x (by omega)), r, h11.keep (fun x _ _ => hk x (by omega))⟩
theorem CR.cmd {σ σ' : zS} {b n len : Nat} {s : AS} {H : Nat → AS} {T : Nat → Int32} (hW : WH s n H T len) (h : CR σ b s n H T len) (hk : ∀ x, (x < b + 185 ∨ b + 187 ≤ x) → σ' x = σ x) (hc : Cd σ' (b + 185)) : CR σ' b s n H T len := by
  obtain ⟨h1, h2, h3, ⟨h4, f, h5, h6⟩, h7, ⟨d, a, re, ca, h8⟩, h9, h10, r, h11⟩ := h
  exact ⟨by rw [hk _ (by omega)]; exact h1, h2.keep hW.1.1 (fun x _ _ => hk x (by omega)), h3.keep hW.2.2.1 hW.2.1 (fun x _ _ => hk x (by omega)), ⟨by rw [hk _ (by omega)]; exact h4, f, by rw [hk _ (by omega)]; exact h5, h6⟩, hc, ⟨d, a, re, ca, by rw [hk _ (by omega)]; exact h8⟩, h9.keep (fun x _ _ => hk x (by omega)), h10.keep (fun x _ _ => hk x (by omega)), r, h11.keep (fun x _ _ => hk x (by omega))⟩
theorem WH.rec {s s' : AS} {n len : Nat} {H : Nat → AS} {T : Nat → Int32} (h : WH s n H T len) (hs : WS s') : WH s' (min (n + 1) 4) (recH n H s) T len := by
  refine ⟨hs, Nat.min_le_right _ _, fun k hk => ?_, h.2.2.2⟩
  unfold recH
  have := h.2.1
  by_cases c : n = 4
  · rw [if_pos c]
    by_cases c3 : k = 3
    ·
      rw [if_pos c3]
      exact h.1
    ·
      rw [if_neg c3]
      exact h.2.2.1 (k + 1) (by omega)
  · rw [if_neg c]
    by_cases cn : k = n
    ·
      rw [if_pos cn]
      exact h.1
    ·
      rw [if_neg cn]
      exact h.2.2.1 k (by omega)
theorem chg {N : Nat} {σ : zS} {b M n len : Nat} {s : AS} {H : Nat → AS} {T f : Nat → Int32} {c e : Int32} (hN : 7000 < N) (hb : b + 229 ≤ M) (hW : WH s n H T len) (hC : CR σ b s n H T len) (hR : MR σ M s n H T len) (hc : Cm σ (b + 185) c e f) : ∃ (y : Int32) (σ1 σ' : zS) (s' : AS) (n' : Nat) (H' : Nat → AS), m_X8_change N σ b = some (y, σ1) ∧ isO σ1 9 M = some () ∧ mdC N (fun σ => mdOf N c (f 0) (f 1) (f 2) (f 3) σ M) σ1 M = some (y, σ') ∧ WH s' n' H' T len ∧ CR σ' b s' n' H' T len ∧ MR σ' M s' n' H' T len := by
  have hws := hW.1
  have st := hC.2.1
  unfold m_X8_change
  rcases cmdQ hN hws c f with ⟨y, a1, a2, a3⟩ | ⟨y, s', a1, a2, a3, a4, a5⟩
  · obtain ⟨σ', b1, b2, b3⟩ := mdC_no (N := N) (md := fun σ => mdOf N c (f 0) (f 1) (f 2) (f 3) σ M) hN hws a1 hR (fun σ h => a3 σ M h)
    rw [hC.o.2.1, Option.bind_some, hC.o.2.2.2.2.1, Option.bind_some, st.o.1, Option.bind_some, a2 σ _ _ e hc st, Option.bind_some, if_neg (Int32.not_le.mpr a1)]
    exact ⟨y, σ, σ', s, n, H, rfl, hR.mb.o.1, b1, hW, hC.keep hW (fun x _ _ => b3 x (by omega)), b2⟩
  · obtain ⟨σ1, b1, b2, b3⟩ := X1_record (N := N) (by omega) hW.2.1 hC.2.2.1 hW.2.2.1 st hws
    have st1 := st.keep hws.1 (σ' := σ1) (fun x _ _ => b3 x (by omega))
    obtain ⟨σ2, c1, c2, c3⟩ := a4 σ1 (b + 1) (b + 185) e (hc.keep (fun x _ _ => b3 x (by omega))) st1
    have hW' := hW.rec a2
    have hC1 : CR σ1 b s (min (n + 1) 4) (recH n H s) T len := hC.upd (fun x hx => b3 x (by omega)) st1 b2
    have hC2 : CR σ2 b s' (min (n + 1) 4) (recH n H s) T len := hC1.upd (fun x hx => c3 x (by omega)) c2 (b2.keep hW'.2.2.1 hW'.2.1 (fun x _ _ => c3 x (by omega)))
    have hR2 : MR σ2 M s n H T len := hR.keep (fun x _ _ => by rw [c3 x (by omega), b3 x (by omega)])
    obtain ⟨σ', d1, d2, d3⟩ := mdC_ok (N := N) (md := fun σ => mdOf N c (f 0) (f 1) (f 2) (f 3) σ M) hN hW.2.1 hws a2 a1 hR2 (fun σ h => a5 σ M h)
    have hC0 : isO σ 1 (b + 37) = some () := isO_at hC.2.2.1.1
    rw [hC.o.2.1, Option.bind_some, hC.o.2.2.2.2.1, Option.bind_some, st.o.1, Option.bind_some, a3 σ _ _ e hc st, Option.bind_some, if_pos (by decide), hC.o.2.2.1, Option.bind_some, Option.bind_some, hC0, Option.bind_some, b1, Option.bind_some, hC1.o.2.1, Option.bind_some, hC1.o.2.2.2.2.1, Option.bind_some, st1.o.1, Option.bind_some, c1, b2_some]
    exact ⟨y, σ2, σ', s', _, _, rfl, hR2.mb.o.1, d1, hW', hC2.keep hW' (fun x _ _ => d3 x (by omega)), d2⟩
/-- what the law wants of a call that may change something -/
def Two (N : Nat) (b M len : Nat) (T : Nat → Int32) (σ : zS) (f g : zS → Option (Int32 × zS)) : Prop := ∃ (y : Int32) (σ1 σ' : zS) (s' : AS) (n' : Nat) (H' : Nat → AS), f σ = some (y, σ1) ∧ isO σ1 9 M = some () ∧ g σ1 = some (y, σ') ∧ WH s' n' H' T len ∧ CR σ' b s' n' H' T len ∧ MR σ' M s' n' H' T len
theorem op_chg2 {N : Nat} {σ : zS} {b M n len : Nat} {s : AS} {H : Nat → AS} {T : Nat → Int32} {c v w : Int32} (hN : 7000 < N) (hb : b + 229 ≤ M) (hW : WH s n H T len) (hC : CR σ b s n H T len) (hR : MR σ M s n H T len) (hc : ckC c = some c) (hc5 : c ≠ 115) : Two N b M len T σ (fun σ => (gA σ 8 3 b).bind fun a1 => (isO σ 0 a1).bind fun u3 => (m_X0_put N σ a1 c v w).bind fun σ6 => (isO σ6 8 b).bind fun u7 => b2 (m_X8_change N σ6 b) fun x11 σ10 => some (x11, σ10)) (fun σ => mdC N (fun σ => mdOf N c v w 0 0 σ M) σ M) := by
  obtain ⟨σ6, e, f, a1, a2, a3, a4, a5⟩ := X0_put (N := N) (v := v) (w := w) hc hC.2.2.2.2.1
  have hC6 : CR σ6 b s n H T len := hC.cmd hW a5 a2.cd
  have hR6 : MR σ6 M s n H T len := hR.keep (fun x _ _ => a5 x (by omega))
  obtain ⟨y, σ1, σ', s', n', H', b1, b2, b3, b4, b5, b6⟩ := chg hN hb hW hC6 hR6 a2
  have o : isO σ 0 (b + 185) = some () := by
    obtain ⟨c0, e0, f0, h1, h2⟩ := hC.2.2.2.2.1
    exact isO_at h1
  refine ⟨y, σ1, σ', s', n', H', ?_, b2, ?_, b4, b5, b6⟩
  · dsimp only
    rw [hC.o.2.2.2.2.1, Option.bind_some, o, Option.bind_some, a1, Option.bind_some, hC6.o.1, Option.bind_some, b1, b2_some]
  · have : (fun σ => mdOf N c v w 0 0 σ M) = (fun σ => mdOf N c (f 0) (f 1) (f 2) (f 3) σ M) := by
      funext σ
      unfold mdOf
      rw [a3, a4, if_neg hc5, if_neg hc5]
    rw [this]
    exact b3
theorem op_table {N : Nat} {σ : zS} {b M n len : Nat} {s : AS} {H : Nat → AS} {T : Nat → Int32} (hN : 7000 < N) (hb : b + 229 ≤ M) (hW : WH s n H T len) (hC : CR σ b s n H T len) (hR : MR σ M s n H T len) (v w : Int32) : Two N b M len T σ (fun σ => m_X8_table N σ b v w) (fun σ => m_X9_table N σ M v w) := op_chg2 (c := 107) (v := v) (w := w) hN hb hW hC hR (by decide) (by decide)
theorem op_add {N : Nat} {σ : zS} {b M n len : Nat} {s : AS} {H : Nat → AS} {T : Nat → Int32} (hN : 7000 < N) (hb : b + 229 ≤ M) (hW : WH s n H T len) (hC : CR σ b s n H T len) (hR : MR σ M s n H T len) (v w : Int32) : Two N b M len T σ (fun σ => m_X8_add N σ b v w) (fun σ => m_X9_add N σ M v w) := op_chg2 (c := 97) (v := v) (w := w) hN hb hW hC hR (by decide) (by decide)
theorem op_merge {N : Nat} {σ : zS} {b M n len : Nat} {s : AS} {H : Nat → AS} {T : Nat → Int32} (hN : 7000 < N) (hb : b + 229 ≤ M) (hW : WH s n H T len) (hC : CR σ b s n H T len) (hR : MR σ M s n H T len) (v w : Int32) : Two N b M len T σ (fun σ => m_X8_merge N σ b v w) (fun σ => m_X9_merge N σ M v w) := op_chg2 (c := 109) (v := v) (w := w) hN hb hW hC hR (by decide) (by decide)
theorem op_reset {N : Nat} {σ : zS} {b M n len : Nat} {s : AS} {H : Nat → AS} {T : Nat → Int32} (hN : 7000 < N) (hb : b + 229 ≤ M) (hW : WH s n H T len) (hC : CR σ b s n H T len) (hR : MR σ M s n H T len) (v : Int32) : Two N b M len T σ (fun σ => m_X8_reset N σ b v) (fun σ => m_X9_reset N σ M v) := op_chg2 (c := 122) (v := v) (w := 0) hN hb hW hC hR (by decide) (by decide)
theorem op_addRow {N : Nat} {σ : zS} {b M n len : Nat} {s : AS} {H : Nat → AS} {T : Nat → Int32} (hN : 7000 < N) (hb : b + 229 ≤ M) (hW : WH s n H T len) (hC : CR σ b s n H T len) (hR : MR σ M s n H T len) (v w u z : Int32) : Two N b M len T σ (fun σ => m_X8_addRow N σ b v w u z) (fun σ => m_X9_addRow N σ M v w u z) := by
  obtain ⟨σ6, e, f, a1, a2, a3, a4, a5⟩ := X0_put (N := N) (c := 115) (v := v) (w := w) (by decide) hC.2.2.2.2.1
  have hC6 : CR σ6 b s n H T len := hC.cmd hW a5 a2.cd
  obtain ⟨σ7, f', c1, c2, c3, c4, c5, c6, c7⟩ := X0_putMore (N := N) (v := u) (w := z) a2
  have hC7 : CR σ7 b s n H T len := hC6.cmd hW c7 c2.cd
  have hR7 : MR σ7 M s n H T len := hR.keep (fun x _ _ => by rw [c7 x (by omega), a5 x (by omega)])
  obtain ⟨y, σ1, σ', s', n', H', b1, b2, b3, b4, b5, b6⟩ := chg hN hb hW hC7 hR7 c2
  have o : isO σ 0 (b + 185) = some () := by
    obtain ⟨c0, e0, f0, h1, h2⟩ := hC.2.2.2.2.1
    exact isO_at h1
  refine ⟨y, σ1, σ', s', n', H', ?_, b2, ?_, b4, b5, b6⟩
  · dsimp only
    unfold m_X8_addRow
    rw [hC.o.2.2.2.2.1, Option.bind_some, o, Option.bind_some, a1, Option.bind_some, hC6.o.2.2.2.2.1, Option.bind_some, a2.o.1, Option.bind_some, c1, Option.bind_some, hC7.o.1, Option.bind_some, b1, b2_some]
  · have : (fun σ => m_X9_seesRow N σ M v w u z) = (fun σ => mdOf N 115 (f' 0) (f' 1) (f' 2) (f' 3) σ M) := by
      funext σ
      unfold mdOf
      rw [c3, c4, c5, c6, a3, a4, if_neg (by decide), if_neg (by decide), if_neg (by decide), if_pos rfl]
    show mdC N (fun σ => m_X9_seesRow N σ M v w u z) σ1 M = _
    rw [this]
    exact b3
theorem op_undo {N : Nat} {σ : zS} {b M n len : Nat} {s : AS} {H : Nat → AS} {T : Nat → Int32} (hN : 7000 < N) (hb : b + 229 ≤ M) (hW : WH s n H T len) (hC : CR σ b s n H T len) (hR : MR σ M s n H T len) : Two N b M len T σ (fun σ => m_X8_undo N σ b) (fun σ => m_X9_undo N σ M) := by
  have hn := hW.2.1
  have tm := tm_eq (k := n) (by omega)
  have g1 := gI_at (k := 1) (x := nI n) hC.2.2.1.1 rfl
  by_cases c : n = 0
  · refine ⟨-2, σ, σ, s, n, H, ?_, hR.mb.o.1, ?_, hW, hC, hR⟩
    · dsimp only
      unfold m_X8_undo
      rw [hC.o.2.2.1, Option.bind_some, g1, Option.bind_some, if_pos (tm.2.2.mpr c)]
    · dsimp only
      obtain ⟨first, at_, ok, re, ca, m0, m1, -⟩ := hR
      unfold m_X9_undo
      rw [gI_at m1 rfl, Option.bind_some, if_pos (tm.2.2.mpr c)]
  · have hws := hW.2.2.1 (n - 1) (by omega)
    obtain ⟨h1, f, p, h2, h3, h4, h5, h6⟩ := hC.2.2.1
    have hp := h3 (n - 1) (by omega)
    obtain ⟨σ1, a1, a2, a3⟩ := X4_copyFrom (N := N) (a := b + 1) (p := b + 39 + 36 * p (n - 1)) (by omega) hws.1 (by omega) (hC.2.1.sh hW.1.1) (h6 (n - 1) (by omega))
    have q1 := (a3 (b + 37) (by omega)).trans h1
    have hW' : WH (H (n - 1)) (n - 1) H T len := ⟨hws, by omega, fun k hk => hW.2.2.1 k (by omega), hW.2.2.2⟩
    generalize hσ2 : zup σ1 (b + 37) (.inr (1, [.ref (b + 38), .int (nI (n - 1))])) = σ2
    have o2 : ∀ x, x ≠ b + 37 → σ2 x = σ1 x := fun x hx => by rw [← hσ2, zup_ne _ _ hx]
    have z2 : σ2 (b + 37) = some (.inr (1, [.ref (b + 38), .int (nI (n - 1))])) := by rw [← hσ2, zup_same]
    have hi2 : Hi σ2 b (n - 1) H := ⟨z2, f, p, by rw [o2 _ (by omega), a3 _ (by omega)]; exact h2, h3, h4, fun k hk => (h5 k hk).keep (fun x _ _ => by rw [o2 _ (by omega), a3 _ (by omega)]), fun k hk => by
      have := (h3 k (by omega)).1
      exact (h6 k (by omega)).keep (hW.2.2.1 k (by omega)).1 (fun x _ _ => by rw [o2 _ (by omega), a3 _ (by omega)])⟩
    have hC2 : CR σ2 b (H (n - 1)) (n - 1) H T len := hC.upd (fun x hx => by rw [o2 _ (by omega), a3 _ (by omega)]) (a2.keep hws.1 (fun x _ _ => o2 x (by omega))) hi2
    have hR2 : MR σ2 M s n H T len := hR.keep (fun x _ _ => by rw [o2 _ (by omega), a3 _ (by omega)])
    have o2M := hR2.mb.o.1
    obtain ⟨first, at_, ok, re, ca, m0, m1, ⟨F, m2, m2'⟩, ⟨G, m3⟩, m4, m5, ⟨X, m6⟩, C, m7, m8⟩ := hR2
    have q3 : zup σ2 M (.inr (9, mF M (nI first) (nI (n - 1)) (nI len) at_ ok re ca)) M = _ := zup_same _ _ _
    generalize hσ3 : zup σ2 M (.inr (9, mF M (nI first) (nI (n - 1)) (nI len) at_ ok re ca)) = σ3 at q3
    have o3 : ∀ x, x ≠ M → σ3 x = σ2 x := fun x hx => by rw [← hσ3, zup_ne _ _ hx]
    have e3 : sI σ2 9 7 M (nI n - 1) = some σ3 := by
      rw [sI_at m1 (Nat.le_of_ble_eq_true rfl), ← hσ3, show (1 : Int32) = nI 1 from rfl, pk_sub (by omega)]
      rfl
    obtain ⟨G0, d0, d0'⟩ := m5 (n - 1) (by omega)
    have hsl : (first + (n - 1)) % 4 < 4 := Nat.mod_lt _ (by decide)
    obtain ⟨G', d1, d2⟩ := X9_brings (N := N) (σ := σ3) hN hsl ⟨_, _, _, _, _, _, _, q3⟩ ⟨F, (o3 _ (by omega)).trans m2⟩ ((o3 _ (by omega)).trans d0)
    have q4 : zup σ3 (M + 1) (.inl (1, 6165, .inl G')) M = _ := (zup_ne _ _ (by omega)).trans q3
    refine ⟨nI (n - 1), σ2, zup σ3 (M + 1) (.inl (1, 6165, .inl G')), H (n - 1), n - 1, H, ?_, o2M, ?_, hW', hC2.keep hW' (fun x _ _ => by rw [zup_ne _ _ (by omega), o3 _ (by omega)]), ⟨first, at_, ok, re, ca, m0, q4, ⟨G', zup_same _ _ _, d0'.cong hws.1 hws.2.2.1 d2⟩, ⟨G, by rw [zup_ne _ _ (by omega), o3 _ (by omega)]; exact m3⟩, fun k hk => ?_, fun k hk => ?_, ⟨X, by rw [zup_ne _ _ (by omega), o3 _ (by omega)]; exact m6⟩, C, by rw [zup_ne _ _ (by omega), o3 _ (by omega)]; exact m7, m8⟩⟩
    · dsimp only
      unfold m_X8_undo m_X1_restore m_X1_slotAt
      have hC8 : gA σ2 8 1 b = some (b + 37) := hC2.o.2.2.1
      have e4 : sI σ1 1 1 (b + 37) (nI n - 1) = some σ2 := by
        rw [sI_at q1 (Nat.le_of_ble_eq_true rfl), ← hσ2, show (1 : Int32) = nI 1 from rfl, pk_sub (by omega)]
        rfl
      rw [hC.o.2.2.1, Option.bind_some, g1, Option.bind_some, if_neg (fun q => c (tm.2.2.mp q)), Option.bind_some, hC.o.2.1, Option.bind_some, isO_at h1, Option.bind_some, g1, Option.bind_some, Option.bind_some]
      have e5 : (nI n : Int32) - 1 = nI (n - 1) := by rw [show (1 : Int32) = nI 1 from rfl, pk_sub (by omega)]
      rw [e5, if_neg (nI_pos (by omega)), if_neg (litge 4 (by omega) (by decide)), gA_at h1 rfl, Option.bind_some, aA_at h2 rfl (by omega) (by decide) hp.2, Option.bind_some, Option.bind_some, Option.elim_some, hC.2.1.o.1, Option.bind_some, a1, Option.bind_some, gI_at q1 rfl, Option.bind_some, e4, Option.bind_some, Option.bind_some, hC8, Option.bind_some, gI_at z2 rfl, Option.bind_some]
    · dsimp only
      unfold m_X9_undo
      rw [gI_at m1 rfl, Option.bind_some, if_neg (fun q => c (tm.2.2.mp q)), Option.bind_some, e3, Option.bind_some, gI_at q3 rfl, Option.bind_some, gI_at q3 rfl, Option.bind_some, isO_at q3, Option.bind_some, nI_add, show (4 : Int32) = nI 4 from rfl, irem_nI (by omega) (by decide) (by decide), d1, Option.bind_some, gI_at q4 rfl, Option.bind_some]
    · obtain ⟨G0, e⟩ := m4 k hk
      exact ⟨G0, by rw [zup_ne _ _ (by omega), o3 _ (by omega)]; exact e⟩
    · obtain ⟨G0, e, e'⟩ := m5 k (by omega)
      exact ⟨G0, by rw [zup_ne _ _ (by omega), o3 _ (by omega)]; exact e, e'⟩
