/-! Pure, 24: the commands of a text, done by both sides -/
theorem mdOf_cong {N : Nat} {c : Int32} {f g : Nat → Int32} {σ : zS} {M : Nat} (hc : wN c ≠ 0) (h : ∀ j, j < wN c → f j = g j) : mdOf N c (f 0) (f 1) (f 2) (f 3) σ M = mdOf N c (g 0) (g 1) (g 2) (g 3) σ M := by
  unfold mdOf
  by_cases c1 : c = 97
  · subst c1
    rw [if_pos rfl, if_pos rfl, h 0 (by decide), h 1 (by decide)]
  · rw [if_neg c1, if_neg c1]
    by_cases c2 : c = 107
    · subst c2
      rw [if_pos rfl, if_pos rfl, h 0 (by decide), h 1 (by decide)]
    · rw [if_neg c2, if_neg c2]
      by_cases c3 : c = 109
      · subst c3
        rw [if_pos rfl, if_pos rfl, h 0 (by decide), h 1 (by decide)]
      · rw [if_neg c3, if_neg c3]
        by_cases c4 : c = 115
        · subst c4
          rw [if_pos rfl, if_pos rfl, h 0 (by decide), h 1 (by decide), h 2 (by decide), h 3 (by decide)]
        · rw [if_neg c4, if_neg c4, h 0 (by omega)]
abbrev RS : Type := (Nat × AS) ⊕ (Nat × Bool × Int32)
def rsn (k : Bool) : Int32 := if k then 2 else 1
def RV (R : RS) : Prop := match R with
  | .inl (m, s') => m < 300 ∧ WS s'
  | .inr (q, _, _) => q < 300
def RunC (σ : zS) (b : Nat) (R : RS) : Prop := Cd σ (b + 224) ∧ Sh σ (b + 188) ∧ ∃ d a re ca : Int32, σ (b + 187) = some (.inr (7, [.ref (b + 188), .ref (b + 224), .int d, .int a, .int re, .int ca])) ∧ match R with
  | .inl (m, s') => St σ (b + 188) s' ∧ d = nI m ∧ re = 0
  | .inr (q, k, y) => a = nI q ∧ re = rsn k ∧ (k = true → ca = y)
def RunM (N M len : Nat) (T : Nat → Int32) (n p many : Nat) (s : AS) (R : RS) : Prop := ∀ (τ : zS) (f6 f7 ok re ca : Int32) (F : Nat → Int32), Xm τ M f6 f7 len p ok re ca T → τ (M + 1) = some (.inl (1, 6165, .inl F)) → FR F s → ∃ (p' : Nat) (ok' re' ca' : Int32) (F' : Nat → Int32) (s'' : AS), FR F' s'' ∧ match R with
  | .inl (m, s') => s'' = s' ∧ m_X9_does_L7 N n τ M (nI many) = some (.inr (nI m, zup (zup τ M (xE M f6 f7 len p' ok' re' ca')) (M + 1) (.inl (1, 6165, .inl F'))))
  | .inr (q, k, y) => re' = rsn k ∧ (k = true → ca' = y) ∧ m_X9_does_L7 N n τ M (nI many) = some (.inl (nI q, zup (zup τ M (xE M f6 f7 len p' ok' re' ca')) (M + 1) (.inl (1, 6165, .inl F'))))
theorem psN_ge (T : Nat → Int32) (len : Nat) : ∀ d p, p ≤ psN T len d p := by
  intro d
  induction d with
  | zero => intro p; exact Nat.le_refl _
  | succ d ih =>
    intro p
    have := ih (p + dgT T len 3 p + 1)
    rw [psN]
    omega
theorem Xm.m1 {σ : zS} {M len p : Nat} {f6 f7 ok re ca : Int32} {T : Nat → Int32} (h : Xm σ M f6 f7 len p ok re ca T) (e : zE) : Xm (zup σ (M + 1) e) M f6 f7 len p ok re ca T := by
  obtain ⟨h1, C, h2, h3⟩ := h
  exact ⟨by rw [zup_ne _ _ (by omega)]; exact h1, C, by rw [zup_ne _ _ (by omega)]; exact h2, h3⟩
theorem does_step {N n M len p p1 many : Nat} {τ τ1 : zS} {f6 f7 ok re ca ok1 y y20 : Int32} {T : Nat → Int32} (hl : len ≤ 80) (hp : p < len) (hx : Xm τ M f6 f7 len p ok re ca T) (hg : m_X9_command N τ M = some (y, τ1)) (h1 : Xm τ1 M f6 f7 len p1 ok1 re ca T) (h20 : (if ok1 = 0 then some (1 : Int32) else if 0 ≤ y then some 0 else some 2) = some y20) : m_X9_does_L7 N (n + 1) τ M (nI many) = if y20 ≤ 0 then m_X9_does_L7 N n (zup τ1 M (xE M f6 f7 len p1 ok1 y20 y)) M (nI (many + 1)) else some (.inl (nI p, zup τ1 M (xE M f6 f7 len p1 ok1 y20 y))) := by
  have e1 : sI τ1 9 13 M y20 = some (zup τ1 M (xE M f6 f7 len p1 ok1 y20 ca)) := by
    rw [sI_at h1.1 (Nat.le_of_ble_eq_true rfl)]
    rfl
  have e2 : sI (zup τ1 M (xE M f6 f7 len p1 ok1 y20 ca)) 9 14 M y = some (zup τ1 M (xE M f6 f7 len p1 ok1 y20 y)) := by
    rw [sI_at (h1.set p1 ok1 y20 ca).1 (Nat.le_of_ble_eq_true rfl), zup_zup]
    rfl
  rw [m_X9_does_L7, gI_at hx.1 rfl, Option.bind_some, gI_at hx.1 rfl, Option.bind_some, if_neg (nI_ge hp (by omega)), Option.bind_some, hx.mb.o.1, Option.bind_some, hg, b2_some, gI_at h1.1 rfl, Option.bind_some, h20, Option.bind_some, e1, Option.bind_some, e2, Option.bind_some, gI_at (h1.set p1 ok1 y20 y).1 rfl, Option.bind_some, Option.bind_some, nI_1]
theorem run_stop {N m b len : Nat} {T : Nat → Int32} {σ : zS} {d a re ca : Int32} (ho : σ (b + 187) = some (.inr (7, [.ref (b + 188), .ref (b + 224), .int d, .int a, .int re, .int ca]))) (hre : re ≠ 0) (ht : Tx σ (b + 183) len T) (v : Int32) : m_X7_run_L30 N (m + 1) σ (b + 187) (b + 183) v = some σ := by
  rw [m_X7_run_L30]
  by_cases c : 80 ≤ v
  · rw [if_pos c]
  · rw [if_neg c, gI_at ho rfl, Option.bind_some, gI_at ht.1 rfl, Option.bind_some]
    by_cases c2 : nI len ≤ a
    · rw [if_pos c2]
    · rw [if_neg c2, gI_at ho rfl, Option.bind_some, if_neg hre]
theorem run_end {N M b len p many turn : Nat} {T : Nat → Int32} {s : AS} {σ : zS} (hT : Chs T len) (hp : len ≤ p) (hp2 : p < 200) (hm : many ≤ p) (hW : WS s) (ht : Tx σ (b + 183) len T) (hc : Cd σ (b + 224)) (hs : St σ (b + 188) s) (ho : ∃ ca : Int32, σ (b + 187) = some (.inr (7, [.ref (b + 188), .ref (b + 224), .int (nI many), .int (nI p), .int 0, .int ca]))) (n : Nat) : m_X7_run_L30 N (n + 1) σ (b + 187) (b + 183) (nI turn) = some σ ∧ RV (.inl (many, s)) ∧ RunC σ b (.inl (many, s)) ∧ ∀ n', 0 < n' → RunM N M len T n' p many s (.inl (many, s)) := by
  obtain ⟨ca, ho⟩ := ho
  have hl := hT.1
  refine ⟨?_, ⟨by omega, hW⟩, ⟨hc, hs.sh hW.1, _, _, _, _, ho, hs, rfl, rfl⟩, fun n' hn' => ?_⟩
  · rw [m_X7_run_L30]
    by_cases c : (80 : Int32) ≤ nI turn
    · rw [if_pos c]
    · rw [if_neg c, gI_at ho rfl, Option.bind_some, gI_at ht.1 rfl, Option.bind_some, if_pos (nI_le hp (by omega))]
  · obtain ⟨n', rfl⟩ : ∃ m, n' = m + 1 := ⟨n' - 1, by omega⟩
    intro τ f6 f7 ok re ca F hx hF hFR
    refine ⟨p, ok, re, ca, F, s, hFR, rfl, ?_⟩
    rw [m_X9_does_L7, gI_at hx.1 rfl, Option.bind_some, gI_at hx.1 rfl, Option.bind_some, if_pos (nI_le hp (by omega)), zup_id hx.1, zup_id hF]
theorem run_both {N M b len : Nat} {T : Nat → Int32} (hN : 7000 < N) (hT : Chs T len) : ∀ d p s many turn n (σ : zS), len ≤ p + d → p < 200 → turn ≤ p → many ≤ p → d < n → WS s → Tx σ (b + 183) len T → Cd σ (b + 224) → St σ (b + 188) s → (∃ ca : Int32, σ (b + 187) = some (.inr (7, [.ref (b + 188), .ref (b + 224), .int (nI many), .int (nI p), .int 0, .int ca]))) → ∃ (R : RS) (σ' : zS), m_X7_run_L30 N n σ (b + 187) (b + 183) (nI turn) = some σ' ∧ (∀ x, (x < b + 187 ∨ b + 226 ≤ x) → σ' x = σ x) ∧ RV R ∧ RunC σ' b R ∧ ∀ n', d < n' → RunM N M len T n' p many s R := by
  have hl := hT.1
  intro d
  induction d with
  | zero =>
    intro p s many turn n σ h1 h2 h3 h4 h5 hW ht hc hs ho
    obtain ⟨n, rfl⟩ : ∃ m, n = m + 1 := ⟨n - 1, by omega⟩
    obtain ⟨a1, a2, a3, a4⟩ := run_end (N := N) (M := M) (turn := turn) hT (show len ≤ p by omega) h2 h4 hW ht hc hs ho n
    exact ⟨_, σ, a1, fun _ _ => rfl, a2, a3, a4⟩
  | succ d ih =>
    intro p s many turn n σ h1 h2 h3 h4 h5 hW ht hc hs ho
    obtain ⟨n, rfl⟩ : ∃ m, n = m + 1 := ⟨n - 1, by omega⟩
    by_cases hp : len ≤ p
    · obtain ⟨a1, a2, a3, a4⟩ := run_end (N := N) (M := M) (turn := turn) hT hp h2 h4 hW ht hc hs ho n
      exact ⟨_, σ, a1, fun _ _ => rfl, a2, a3, fun n' h => a4 n' (by omega)⟩
    · have hpl : p < len := Nat.lt_of_not_le hp
      obtain ⟨ca0, ho⟩ := ho
      obtain ⟨m, rfl⟩ : ∃ m, n = m + 1 := ⟨n - 1, by omega⟩
      obtain ⟨c0, e0, f0, hc1, hc2⟩ := id hc
      obtain ⟨r1, r2⟩ := X0_read (N := N) (q := b + 224) (t := b + 183) (p := p) (by omega) hT (by omega) hpl hc ht
      rw [m_X7_run_L30, if_neg (litge 80 (by omega) (by decide)), gI_at ho rfl, Option.bind_some, gI_at ht.1 rfl, Option.bind_some, if_neg (nI_ge hpl (by omega)), gI_at ho rfl, Option.bind_some, if_pos (show (0 : Int32) = 0 from rfl), isO_at ho, Option.bind_some]
      unfold m_X7_faultOfNext
      rw [gA_at ho rfl, Option.bind_some, gI_at ho rfl, Option.bind_some, isO_at hc1, Option.bind_some]
      by_cases cok : okN T len p
      · obtain ⟨σ8, f, e1, e2, e3, e4⟩ := r1 cok
        have ho8 := (e4 (b + 187) (by omega)).trans ho
        have st8 : St σ8 (b + 188) s := hs.keep hW.1 (fun x _ _ => e4 x (by omega))
        have t8 : Tx σ8 (b + 183) len T := ht.keep (fun x _ _ => e4 x (by omega))
        have hcg := fun (σ : zS) (M : Nat) => mdOf_cong (N := N) (σ := σ) (M := M) (f := f) (g := fun j => vaN T len j (p + 1)) cok.1 e3
        rw [e1, b2_some, if_neg (by decide), gA_at ho8 rfl, Option.bind_some, gA_at ho8 rfl, Option.bind_some, st8.o.1, Option.bind_some]
        rcases cmdQ hN hW (T p) f with ⟨y, a1, a2, a3⟩ | ⟨y, s', a1, a2, a3, a4, a5⟩
        · have q1 : zup σ8 (b + 187) (.inr (7, [.ref (b + 188), .ref (b + 224), .int (nI many), .int (nI p), .int 2, .int y])) (b + 187) = _ := zup_same _ _ _
          have k1 : ∀ x, x ≠ b + 187 → zup σ8 (b + 187) (.inr (7, [.ref (b + 188), .ref (b + 224), .int (nI many), .int (nI p), .int 2, .int y])) x = σ8 x := fun x hx => zup_ne _ _ hx
          have t1 := t8.keep (σ' := zup σ8 (b + 187) (.inr (7, [.ref (b + 188), .ref (b + 224), .int (nI many), .int (nI p), .int 2, .int y]))) (fun x _ _ => k1 x (by omega))
          have run1 := run_stop (N := N) (m := m) q1 (by decide) t1 (nI turn + 1)
          have e5 : sI σ8 7 5 (b + 187) y = some (zup σ8 (b + 187) (.inr (7, [.ref (b + 188), .ref (b + 224), .int (nI many), .int (nI p), .int 0, .int y]))) := by
            rw [sI_at ho8 (Nat.le_of_ble_eq_true rfl)]
            rfl
          have e6 : sI (zup σ8 (b + 187) (.inr (7, [.ref (b + 188), .ref (b + 224), .int (nI many), .int (nI p), .int 0, .int y]))) 7 4 (b + 187) 2 = some (zup σ8 (b + 187) (.inr (7, [.ref (b + 188), .ref (b + 224), .int (nI many), .int (nI p), .int 2, .int y]))) := by
            rw [sI_at (zup_same _ _ _) (Nat.le_of_ble_eq_true rfl), zup_zup]
            rfl
          rw [a2 σ8 _ _ _ e2 st8, Option.bind_some, e5, Option.bind_some, gI_at (zup_same _ _ _) rfl, Option.bind_some, if_neg (Int32.not_le.mpr a1), b2_some, e6, Option.bind_some, gI_at q1 rfl, Option.bind_some, if_neg (by decide), Option.bind_some, Option.bind_some, run1]
          refine ⟨.inr (p, true, y), _, rfl, fun x hx => by rw [k1 x (by omega), e4 x (by omega)], (by show p < 300; omega), ⟨e2.cd.keep (fun x _ _ => k1 x (by omega)), (st8.sh hW.1).keep (fun x _ _ => k1 x (by omega)), _, _, _, _, q1, rfl, rfl, fun _ => rfl⟩, fun n' hn' => ?_⟩
          obtain ⟨n', rfl⟩ : ∃ m, n' = m + 1 := ⟨n' - 1, by omega⟩
          intro τ f6 f7 ok re ca F hx hF hFR
          have h1' := hx.set (psN T len (wN (T p)) (p + 1)) 1 re ca
          have g := (hx.command hN hT hpl).1 cok
          rw [← hcg, a3 _ M ⟨h1'.mb, F, by rw [zup_ne _ _ (by omega)]; exact hF, hFR⟩] at g
          refine ⟨psN T len (wN (T p)) (p + 1), 1, 2, y, F, s, hFR, rfl, fun _ => rfl, ?_⟩
          rw [does_step hl hpl hx g h1' (y20 := 2) (by rw [if_neg (by decide), if_neg (Int32.not_le.mpr a1)]), if_neg (by decide), zup_zup]
          rw [zup_id (σ := zup τ M (xE M f6 f7 len (psN T len (wN (T p)) (p + 1)) 1 2 y)) (q := M + 1) (by rw [zup_ne _ _ (by omega)]; exact hF)]
        · have e5 : sI σ8 7 5 (b + 187) 0 = some (zup σ8 (b + 187) (.inr (7, [.ref (b + 188), .ref (b + 224), .int (nI many), .int (nI p), .int 0, .int 0]))) := by
            rw [sI_at ho8 (Nat.le_of_ble_eq_true rfl)]
            rfl
          have q9 : zup σ8 (b + 187) (.inr (7, [.ref (b + 188), .ref (b + 224), .int (nI many), .int (nI p), .int 0, .int 0])) (b + 187) = _ := zup_same _ _ _
          have k9 : ∀ x, x ≠ b + 187 → zup σ8 (b + 187) (.inr (7, [.ref (b + 188), .ref (b + 224), .int (nI many), .int (nI p), .int 0, .int 0])) x = σ8 x := fun x hx => zup_ne _ _ hx
          have e6 : sI (zup σ8 (b + 187) (.inr (7, [.ref (b + 188), .ref (b + 224), .int (nI many), .int (nI p), .int 0, .int 0]))) 7 4 (b + 187) 0 = some (zup σ8 (b + 187) (.inr (7, [.ref (b + 188), .ref (b + 224), .int (nI many), .int (nI p), .int 0, .int 0]))) := by
            rw [sI_at (zup_same _ _ _) (Nat.le_of_ble_eq_true rfl), zup_zup]
            rfl
          generalize hσ9 : zup σ8 (b + 187) (.inr (7, [.ref (b + 188), .ref (b + 224), .int (nI many), .int (nI p), .int 0, .int 0])) = σ9 at e5 q9 k9 e6
          have c9 := e2.keep (σ' := σ9) (fun x _ _ => k9 x (by omega))
          have st9 : St σ9 (b + 188) s := st8.keep hW.1 (fun x _ _ => k9 x (by omega))
          obtain ⟨σ42, g1, g2, g3⟩ := a4 σ9 (b + 188) (b + 224) _ c9 st9
          have q42 := (g3 (b + 187) (by omega)).trans q9
          have e7 : sI σ42 7 2 (b + 187) (nI (many + 1)) = some (zup σ42 (b + 187) (.inr (7, [.ref (b + 188), .ref (b + 224), .int (nI (many + 1)), .int (nI p), .int 0, .int 0]))) := by
            rw [sI_at q42 (Nat.le_of_ble_eq_true rfl)]
            rfl
          have c42 : Cm σ42 (b + 224) (T p) (nI (psN T len (wN (T p)) (p + 1))) f := c9.keep (fun x _ _ => g3 x (by omega))
          have c46 : zup σ42 (b + 187) (.inr (7, [.ref (b + 188), .ref (b + 224), .int (nI (many + 1)), .int (nI p), .int 0, .int 0])) (b + 224) = _ := (zup_ne _ _ (by omega)).trans c42.1
          have e8 : sI (zup σ42 (b + 187) (.inr (7, [.ref (b + 188), .ref (b + 224), .int (nI (many + 1)), .int (nI p), .int 0, .int 0]))) 7 3 (b + 187) (nI (psN T len (wN (T p)) (p + 1))) = some (zup σ42 (b + 187) (.inr (7, [.ref (b + 188), .ref (b + 224), .int (nI (many + 1)), .int (nI (psN T len (wN (T p)) (p + 1))), .int 0, .int 0]))) := by
            rw [sI_at (zup_same _ _ _) (Nat.le_of_ble_eq_true rfl), zup_zup]
            rfl
          have k52 : ∀ x, x ≠ b + 187 → zup σ42 (b + 187) (.inr (7, [.ref (b + 188), .ref (b + 224), .int (nI (many + 1)), .int (nI (psN T len (wN (T p)) (p + 1))), .int 0, .int 0])) x = σ42 x := fun x hx => zup_ne _ _ hx
          have q52 : zup σ42 (b + 187) (.inr (7, [.ref (b + 188), .ref (b + 224), .int (nI (many + 1)), .int (nI (psN T len (wN (T p)) (p + 1))), .int 0, .int 0])) (b + 187) = _ := zup_same _ _ _
          generalize hσ52 : zup σ42 (b + 187) (.inr (7, [.ref (b + 188), .ref (b + 224), .int (nI (many + 1)), .int (nI (psN T len (wN (T p)) (p + 1))), .int 0, .int 0])) = σ52 at e8 k52 q52
          have w4 := wN_le (T p)
          have pg := psN_ge T len (wN (T p)) (p + 1)
          have pl := psN_le T len (wN (T p)) (p + 1)
          obtain ⟨R, σ', i1, i2, i3, i4, i5⟩ := ih (psN T len (wN (T p)) (p + 1)) s' (many + 1) (turn + 1) (m + 1) σ52 (by omega) (by omega) (by omega) (by omega) (by omega) a2 (t8.keep (fun x _ _ => by rw [k52 x (by omega), g3 x (by omega), k9 x (by omega)])) (c42.cd.keep (fun x _ _ => k52 x (by omega))) (g2.keep a2.1 (fun x _ _ => k52 x (by omega))) ⟨_, q52⟩
          rw [a3 σ8 _ _ _ e2 st8, Option.bind_some, e5, Option.bind_some, gI_at q9 rfl, Option.bind_some, if_pos (by decide), b2_some, e6, Option.bind_some, gI_at q9 rfl, Option.bind_some, if_pos rfl, gA_at q9 rfl, Option.bind_some, gA_at q9 rfl, Option.bind_some, st9.o.1, Option.bind_some, g1, b2_some, gI_at q42 rfl, Option.bind_some, nI_1, e7, Option.bind_some, gA_at (zup_same _ _ _) rfl, Option.bind_some, gI_at c46 rfl, Option.bind_some, e8, Option.bind_some, Option.bind_some, Option.bind_some, nI_1]
          refine ⟨R, σ', i1, fun x hx => by rw [i2 x hx, k52 x (by omega), g3 x (by omega), k9 x (by omega), e4 x (by omega)], i3, i4, fun n' hn' => ?_⟩
          obtain ⟨n', rfl⟩ : ∃ m, n' = m + 1 := ⟨n' - 1, by omega⟩
          intro τ f6 f7 ok re ca F hx hF hFR
          have h1' := hx.set (psN T len (wN (T p)) (p + 1)) 1 re ca
          have g := (hx.command hN hT hpl).1 cok
          obtain ⟨F', b1, b2⟩ := a5 _ M ⟨h1'.mb, F, by rw [zup_ne _ _ (by omega)]; exact hF, hFR⟩
          rw [← hcg, b1] at g
          have h2' := h1'.m1 (.inl (1, 6165, .inl F'))
          have h3' := h2'.set (psN T len (wN (T p)) (p + 1)) 1 0 y
          have dst := does_step (n := n') (many := many) hl hpl hx g h2' (y20 := 0) (by rw [if_neg (by decide), if_pos a1])
          rw [if_pos (by decide)] at dst
          obtain ⟨p', ok', re', ca', F2, s2, j1, j2⟩ := i5 n' (by omega) _ f6 f7 1 0 y F' h3' (by rw [zup_ne _ _ (by omega), zup_same]) b2
          refine ⟨p', ok', re', ca', F2, s2, j1, ?_⟩
          have z5 : ∀ e : zE, zup (zup (zup (zup (zup τ M (xE M f6 f7 len (psN T len (wN (T p)) (p + 1)) 1 re ca)) (M + 1) (.inl (1, 6165, .inl F'))) M (xE M f6 f7 len (psN T len (wN (T p)) (p + 1)) 1 0 y)) M e) (M + 1) (.inl (1, 6165, .inl F2)) = zup (zup τ M e) (M + 1) (.inl (1, 6165, .inl F2)) := fun e => by rw [zup_zup, zup_comm (show M + 1 ≠ M by omega), zup_zup, zup_zup]
          rw [z5] at j2
          rcases R with ⟨m2, s2'⟩ | ⟨q2, k2, y2⟩
          · exact ⟨j2.1, dst.trans j2.2⟩
          · exact ⟨j2.1, j2.2.1, dst.trans j2.2.2⟩
      · obtain ⟨σ8, e1, e2, e4⟩ := r2 cok
        have ho8 := (e4 (b + 187) (by omega)).trans ho
        have st8 : St σ8 (b + 188) s := hs.keep hW.1 (fun x _ _ => e4 x (by omega))
        have t8 : Tx σ8 (b + 183) len T := ht.keep (fun x _ _ => e4 x (by omega))
        have q1 : zup σ8 (b + 187) (.inr (7, [.ref (b + 188), .ref (b + 224), .int (nI many), .int (nI p), .int 1, .int ca0])) (b + 187) = _ := zup_same _ _ _
        have k1 : ∀ x, x ≠ b + 187 → zup σ8 (b + 187) (.inr (7, [.ref (b + 188), .ref (b + 224), .int (nI many), .int (nI p), .int 1, .int ca0])) x = σ8 x := fun x hx => zup_ne _ _ hx
        have t1 := t8.keep (σ' := zup σ8 (b + 187) (.inr (7, [.ref (b + 188), .ref (b + 224), .int (nI many), .int (nI p), .int 1, .int ca0]))) (fun x _ _ => k1 x (by omega))
        have run1 := run_stop (N := N) (m := m) q1 (by decide) t1 (nI turn + 1)
        have e6 : sI σ8 7 4 (b + 187) 1 = some (zup σ8 (b + 187) (.inr (7, [.ref (b + 188), .ref (b + 224), .int (nI many), .int (nI p), .int 1, .int ca0]))) := by
          rw [sI_at ho8 (Nat.le_of_ble_eq_true rfl)]
          rfl
        rw [e1, b2_some, if_pos rfl, b2_some, e6, Option.bind_some, gI_at q1 rfl, Option.bind_some, if_neg (by decide), Option.bind_some, Option.bind_some, run1]
        refine ⟨.inr (p, false, 0), _, rfl, fun x hx => by rw [k1 x (by omega), e4 x (by omega)], (by show p < 300; omega), ⟨e2.keep (fun x _ _ => k1 x (by omega)), (st8.sh hW.1).keep (fun x _ _ => k1 x (by omega)), _, _, _, _, q1, rfl, rfl, fun q => absurd q Bool.false_ne_true⟩, fun n' hn' => ?_⟩
        obtain ⟨n', rfl⟩ : ∃ m, n' = m + 1 := ⟨n' - 1, by omega⟩
        intro τ f6 f7 ok re ca F hx hF hFR
        obtain ⟨p', g⟩ := (hx.command hN hT hpl).2 cok
        have h1' := hx.set p' 0 re ca
        refine ⟨p', 0, 1, 0, F, s, hFR, rfl, fun q => absurd q Bool.false_ne_true, ?_⟩
        rw [does_step hl hpl hx g h1' (y20 := 1) (by rw [if_pos rfl]), if_neg (by decide), zup_zup]
        rw [zup_id (σ := zup τ M (xE M f6 f7 len p' 0 1 0)) (q := M + 1) (by rw [zup_ne _ _ (by omega)]; exact hF)]
