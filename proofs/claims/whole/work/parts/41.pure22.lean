/-! Pure, 22: reading a command, both sides -/
def chN (T : Nat → Int32) (len i : Nat) : Int32 := if i < len then T i else 0
def hrN (T : Nat → Int32) (len i : Nat) : Int32 := if i < len then T i else -1
def Chs (T : Nat → Int32) (len : Nat) : Prop := len ≤ 80 ∧ ∀ j, j < len → ∃ c : Nat, 32 ≤ c ∧ c ≤ 126 ∧ T j = nI c
def dgT (T : Nat → Int32) (len : Nat) : Nat → Nat → Nat
  | 0, _ => 0
  | k + 1, p => if chN T len p < 48 then 0 else if 57 < chN T len p then 0 else dgT T len k (p + 1) + 1
def vlT (T : Nat → Int32) (len : Nat) : Nat → Nat → Int32 → Int32
  | 0, _, v => v
  | k + 1, p, v => vlT T len k (p + 1) (v * 10 + (chN T len p - 48))
theorem dgT_le (T : Nat → Int32) (len : Nat) : ∀ k p, dgT T len k p ≤ k := by
  intro k
  induction k with
  | zero => intro p; exact Nat.le_refl 0
  | succ k ih =>
    intro p
    rw [dgT]
    have := ih (p + 1)
    split
    · omega
    · split
      · omega
      · omega
theorem Tx.sign {N : Nat} {σ : zS} {q len i : Nat} {T : Nat → Int32} (h : Tx σ q len T) (hT : Chs T len) (hi : i < 2 ^ 31) : m_X6_signAt N σ q (nI i) = some (chN T len i) := by
  obtain ⟨t1, f, t2, t3⟩ := h
  have hl := hT.1
  unfold m_X6_signAt chN
  rw [if_neg (nI_pos hi), gI_at t1 rfl, Option.bind_some]
  by_cases c : i < len
  · obtain ⟨k, k1, k2, k3⟩ := hT.2 i c
    rw [if_neg (nI_ge c (by omega)), if_neg (litge 80 (by omega) (by decide)), gA_at t1 rfl, Option.bind_some, aI_at t2 rfl (by omega) (by decide), Option.bind_some, t3 i c, if_pos c, k3, (ch_ck (by omega)).1, Option.bind_some]
  · rw [if_pos (nI_le (by omega) hi), if_neg c]
theorem Tx.digL {N : Nat} {σ : zS} {q len p : Nat} {T : Nat → Int32} (h : Tx σ q len T) (hT : Chs T len) (hp : p < 1000) : ∀ d j n, j + d = 3 → d < n → m_X6_digitsAt_L2 N n σ q (nI p) (nI j) = some (nI (j + dgT T len d (p + j))) := by
  intro d
  induction d with
  | zero =>
    intro j n hj hn
    obtain ⟨n, rfl⟩ : ∃ m, n = m + 1 := ⟨n - 1, by omega⟩
    rw [m_X6_digitsAt_L2, if_pos (by rw [show j = 3 by omega]; decide)]
    rfl
  | succ d ih =>
    intro j n hj hn
    obtain ⟨n, rfl⟩ : ∃ m, n = m + 1 := ⟨n - 1, by omega⟩
    rw [m_X6_digitsAt_L2, if_neg (litge 3 (by omega) (by decide)), isO_at h.1, Option.bind_some, nI_add, h.sign hT (by omega), Option.bind_some, dgT]
    by_cases c1 : chN T len (p + j) < 48
    · rw [if_pos c1, if_pos c1]
      rfl
    · rw [if_neg c1, if_neg c1, Option.bind_some, Option.bind_some]
      by_cases c2 : 57 < chN T len (p + j)
      · rw [if_pos c2, if_pos c2]
        rfl
      · rw [if_neg c2, if_neg c2, Option.bind_some, nI_1, ih (j + 1) n (by omega) (by omega), show p + (j + 1) = p + j + 1 by omega, show j + 1 + dgT T len d (p + j + 1) = j + (dgT T len d (p + j + 1) + 1) by omega]
theorem Tx.dig {N : Nat} {σ : zS} {q len p : Nat} {T : Nat → Int32} (hN : 50 < N) (h : Tx σ q len T) (hT : Chs T len) (hp : p < 1000) : m_X6_digitsAt N σ q (nI p) = some (nI (dgT T len 3 p)) := by
  unfold m_X6_digitsAt
  rw [show (0 : Int32) = nI 0 from rfl, h.digL hT hp 3 0 N rfl (by omega), Option.bind_some, Nat.zero_add, Nat.add_zero]
theorem Tx.numL {N : Nat} {σ : zS} {q len p e : Nat} {T : Nat → Int32} (h : Tx σ q len T) (hT : Chs T len) (hp : p < 1000) (he : e ≤ 3) : ∀ d j n v, j + d = e → d < n → m_X6_numberAt_L5 N n σ q (nI p) (nI e) v (nI j) = some (vlT T len d (p + j) v) := by
  intro d
  induction d with
  | zero =>
    intro j n v hj hn
    obtain ⟨n, rfl⟩ : ∃ m, n = m + 1 := ⟨n - 1, by omega⟩
    rw [m_X6_numberAt_L5, if_pos (nI_le (by omega) (by omega))]
    rfl
  | succ d ih =>
    intro j n v hj hn
    obtain ⟨n, rfl⟩ : ∃ m, n = m + 1 := ⟨n - 1, by omega⟩
    rw [m_X6_numberAt_L5, if_neg (nI_ge (by omega) (by omega)), isO_at h.1, Option.bind_some, nI_add, h.sign hT (by omega), Option.bind_some, Option.bind_some, Option.bind_some, nI_1, ih (j + 1) n _ (by omega) (by omega)]
    rfl
theorem Tx.num {N : Nat} {σ : zS} {q len p e : Nat} {T : Nat → Int32} (hN : 50 < N) (h : Tx σ q len T) (hT : Chs T len) (hp : p < 1000) (he : e ≤ 3) : m_X6_numberAt N σ q (nI p) (nI e) = some (vlT T len e p 0) := by
  unfold m_X6_numberAt
  have := h.numL (N := N) hT hp he e 0 N 0 (by omega) (by omega)
  rw [Nat.add_zero] at this
  rw [show m_X6_numberAt_L5 N N σ q (nI p) (nI e) 0 0 = _ from this, Option.bind_some]
/-- the i-th number's place, and its value; whether so many numbers stand there, each with what is due behind it -/
def psN (T : Nat → Int32) (len : Nat) : Nat → Nat → Nat
  | 0, p => p
  | i + 1, p => psN T len i (p + dgT T len 3 p + 1)
def vaN (T : Nat → Int32) (len : Nat) (i p : Nat) : Int32 := vlT T len (dgT T len 3 (psN T len i p)) (psN T len i p) 0
def duN (d : Nat) : Int32 := if d = 0 then 59 else 44
def prs (T : Nat → Int32) (len : Nat) : Nat → Nat → Bool
  | 0, _ => true
  | d + 1, p => decide (0 < dgT T len 3 p) && (chN T len (p + dgT T len 3 p) == duN d) && prs T len d (p + dgT T len 3 p + 1)
theorem psN_le (T : Nat → Int32) (len : Nat) : ∀ d p, psN T len d p ≤ p + 4 * d := by
  intro d
  induction d with
  | zero => intro p; exact Nat.le_refl _
  | succ d ih =>
    intro p
    have := ih (p + dgT T len 3 p + 1)
    have := dgT_le T len 3 p
    rw [psN]
    omega
def wN (c : Int32) : Nat := if c = 97 then 2 else if c = 107 then 2 else if c = 109 then 2 else if c = 115 then 4 else if c = 122 then 1 else 0
theorem wN_le (c : Int32) : wN c ≤ 4 := by
  unfold wN
  repeat' split
  all_goals omega
theorem X0_wanted {N : Nat} {σ : zS} {q : Nat} {c e : Int32} {f : Nat → Int32} (h : Cm σ q c e f) : m_X0_numbersWanted N σ q = some (nI (wN c)) := by
  unfold m_X0_numbersWanted wN
  rw [h.o.2.1, Option.bind_some]
  by_cases c1 : c = 97
  · rw [if_pos c1, if_pos c1]
    rfl
  · rw [if_neg c1, if_neg c1]
    by_cases c2 : c = 107
    · rw [if_pos c2, if_pos c2]
      rfl
    · rw [if_neg c2, if_neg c2]
      by_cases c3 : c = 109
      · rw [if_pos c3, if_pos c3]
        rfl
      · rw [if_neg c3, if_neg c3]
        by_cases c4 : c = 115
        · rw [if_pos c4, if_pos c4]
          rfl
        · rw [if_neg c4, if_neg c4]
          by_cases c5 : c = 122
          · rw [if_pos c5, if_pos c5]
            rfl
          · rw [if_neg c5, if_neg c5]
            rfl
theorem Tx.zup {σ : zS} {t q len : Nat} {T : Nat → Int32} {e : zE} (h : Tx σ t len T) (hq : q ≠ t ∧ q ≠ t + 1) : Tx (zup σ q e) t len T := by
  obtain ⟨t1, f, t2, t3⟩ := h
  exact ⟨by rw [zup_ne _ _ hq.1.symm]; exact t1, f, by rw [zup_ne _ _ hq.2.symm]; exact t2, t3⟩
theorem Tx.keep {σ σ' : zS} {t len : Nat} {T : Nat → Int32} (h : Tx σ t len T) (hk : ∀ x, t ≤ x → x < t + 2 → σ' x = σ x) : Tx σ' t len T := by
  obtain ⟨t1, f, t2, t3⟩ := h
  exact ⟨by rw [hk _ (by omega) (by omega)]; exact t1, f, by rw [hk _ (by omega) (by omega)]; exact t2, t3⟩
theorem X0_readL {N q t len w : Nat} {T : Nat → Int32} {c e : Int32} (hN : 50 < N) (hT : Chs T len) (hq : t + 1 < q) (hw : w ≤ 4) : ∀ d i n p (σ : zS) (f : Nat → Int32), i + d = w → d < n → p + 4 * d < 1000 → Cm σ q c e f → Tx σ t len T → ∃ f' : Nat → Int32, (∀ j, j < i → f' j = f j) ∧ (prs T len d p = true → (∀ j, j < d → f' (i + j) = vaN T len j p) ∧ m_X0_read_L22 N n σ q t (nI w) (nI p) (nI i) = some (.inr (nI (psN T len d p), zup σ (q + 1) (.inl (1, 4, .inl f'))))) ∧ (prs T len d p = false → m_X0_read_L22 N n σ q t (nI w) (nI p) (nI i) = some (.inl (0, zup σ (q + 1) (.inl (1, 4, .inl f'))))) := by
  intro d
  induction d with
  | zero =>
    intro i n p σ f hi hn hp h ht
    obtain ⟨n, rfl⟩ : ∃ m, n = m + 1 := ⟨n - 1, by omega⟩
    refine ⟨f, fun _ _ => rfl, fun _ => ⟨fun j hj => by omega, ?_⟩, fun q => by cases q⟩
    rw [m_X0_read_L22, if_pos (nI_le (by omega) (by omega)), zup_id h.2]
    rfl
  | succ d ih =>
    intro i n p σ f hi hn hp h ht
    obtain ⟨n, rfl⟩ : ∃ m, n = m + 1 := ⟨n - 1, by omega⟩
    have hd := dgT_le T len 3 p
    have hz : ∀ e, Tx (zup σ (q + 1) e) t len T := fun e => ht.zup ⟨by omega, by omega⟩
    rw [m_X0_read_L22, if_neg (nI_ge (by omega) (by omega)), h.o.2.2.2, Option.bind_some, aL_at h.2, Option.bind_some, if_neg (nI_ge (by omega) (by decide)), isO_at ht.1, Option.bind_some, ht.dig hN hT (by omega), Option.bind_some, Option.bind_some, Option.bind_some, ht.num hN hT (by omega) hd, Option.bind_some, uI_at h.2 rfl (by omega) (by decide), Option.bind_some, ibs]
    rw [prs]
    by_cases c1 : dgT T len 3 p = 0
    · rw [if_pos (show nI (dgT T len 3 p) = 0 by rw [c1]; rfl)]
      refine ⟨upd f i (vlT T len (dgT T len 3 p) p 0), fun j hj => upd_ne _ _ (by omega), fun q => ?_, fun _ => rfl⟩
      rw [c1] at q
      cases q
    · have hdue : (if nI w ≤ nI i + 1 then (59 : Int32) else 44) = duN d := by
        unfold duN
        by_cases cd : d = 0
        · rw [if_pos cd, if_pos (by rw [nI_1]; exact nI_le (by omega) (by omega))]
        · rw [if_neg cd, if_neg (by rw [nI_1]; exact nI_ge (by omega) (by omega))]
      rw [if_neg (show ¬ nI (dgT T len 3 p) = 0 by rw [show (0 : Int32) = nI 0 from rfl, nI_eq (by omega) (by decide)]; exact c1), isO_at (hz _).1, Option.bind_some, nI_add, (hz _).sign hT (by omega), Option.bind_some, hdue, show decide (0 < dgT T len 3 p) = true from decide_eq_true (by omega), Bool.true_and]
      by_cases c2 : chN T len (p + dgT T len 3 p) = duN d
      · obtain ⟨f', g1, g2, g3⟩ := ih (i + 1) n (p + dgT T len 3 p + 1) (zup σ (q + 1) (.inl (1, 4, .inl (upd f i (vlT T len (dgT T len 3 p) p 0))))) (upd f i (vlT T len (dgT T len 3 p) p 0)) (by omega) (by omega) (by omega) ⟨by rw [zup_ne _ _ (by omega)]; exact h.1, zup_same _ _ _⟩ (hz _)
        rw [zup_zup] at g2 g3
        rw [if_pos c2, Option.bind_some, Option.bind_some, nI_1, nI_add, nI_1, show p + (dgT T len 3 p + 1) = p + dgT T len 3 p + 1 by omega, show (chN T len (p + dgT T len 3 p) == duN d) = true from beq_iff_eq.mpr c2, Bool.true_and]
        refine ⟨f', fun j hj => by rw [g1 j (by omega), upd_ne _ _ (by omega)], fun q => ⟨fun j hj => ?_, (g2 q).2⟩, g3⟩
        by_cases cj : j = 0
        · subst cj
          rw [Nat.add_zero, g1 i (by omega), upd_same]
          rfl
        · obtain ⟨j, rfl⟩ : ∃ k, j = k + 1 := ⟨j - 1, by omega⟩
          rw [show i + (j + 1) = i + 1 + j by omega, (g2 q).1 j (by omega)]
          rfl
      · rw [if_neg c2, show (chN T len (p + dgT T len 3 p) == duN d) = false from beq_eq_false_iff_ne.mpr c2, Bool.false_and]
        exact ⟨upd f i (vlT T len (dgT T len 3 p) p 0), fun j hj => upd_ne _ _ (by omega), fun q => absurd q Bool.false_ne_true, fun _ => rfl⟩
/-- a command stands at p -/
def okN (T : Nat → Int32) (len p : Nat) : Prop := wN (T p) ≠ 0 ∧ prs T len (wN (T p)) (p + 1) = true
theorem X0_read {N q t len p : Nat} {T : Nat → Int32} {σ : zS} (hN : 50 < N) (hT : Chs T len) (hq : t + 1 < q) (hp : p < len) (h : Cd σ q) (ht : Tx σ t len T) : (okN T len p → ∃ (σ' : zS) (f : Nat → Int32), m_X0_read N σ q t (nI p) = some (1, σ') ∧ Cm σ' q (T p) (nI (psN T len (wN (T p)) (p + 1))) f ∧ (∀ j, j < wN (T p) → f j = vaN T len j (p + 1)) ∧ ∀ x, (x < q ∨ q + 2 ≤ x) → σ' x = σ x) ∧ (¬ okN T len p → ∃ σ', m_X0_read N σ q t (nI p) = some (0, σ') ∧ Cd σ' q ∧ ∀ x, (x < q ∨ q + 2 ≤ x) → σ' x = σ x) := by
  obtain ⟨c0, e, f, h1, h2⟩ := h
  have hl := hT.1
  obtain ⟨k, k1, k2, k3⟩ := hT.2 p hp
  have ec : chN T len p = T p := if_pos hp
  have ck : ckC (T p) = some (T p) := by rw [k3]; exact (ch_ck (by omega)).1
  have q1 : Cm (zup σ q (.inr (0, [.ref (q + 1), .int (T p), .int e]))) q (T p) e f := ⟨zup_same _ _ _, by rw [zup_ne _ _ (by omega)]; exact h2⟩
  generalize hσ1 : zup σ q (.inr (0, [.ref (q + 1), .int (T p), .int e])) = σ1 at q1
  have o1 : ∀ x, x ≠ q → σ1 x = σ x := fun x hx => by rw [← hσ1, zup_ne _ _ hx]
  have t1 : Tx σ1 t len T := ht.keep (fun x _ _ => o1 x (by omega))
  have e1 : sI σ 0 1 q (T p) = some σ1 := by
    rw [sI_at h1 (Nat.le_of_ble_eq_true rfl), ← hσ1]
    rfl
  have wl := wN_le (T p)
  obtain ⟨f', g1, g2, g3⟩ := X0_readL (N := N) (w := wN (T p)) hN hT hq wl (wN (T p)) 0 N (p + 1) σ1 f (by omega) (by omega) (by omega) q1 t1
  have z1 : zup σ1 (q + 1) (.inl (1, 4, .inl f')) q = _ := (zup_ne _ _ (by omega)).trans q1.1
  have m : ∀ r, m_X0_read_L22 N N σ1 q t (nI (wN (T p))) (nI (p + 1)) (nI 0) = r → m_X0_read N σ q t (nI p) = bs r (fun r => some r) fun z53 => b2 (some z53) fun y47 σ48 => (sI σ48 0 2 q y47).bind fun σ50 => if nI (wN (T p)) ≤ 0 then (some (0, σ50)) else (some (1, σ50)) := fun r hr => by
    unfold m_X0_read
    rw [isO_at ht.1, Option.bind_some, ht.sign hT (by omega), Option.bind_some, ec, ck, Option.bind_some, e1, Option.bind_some, q1.o.1, Option.bind_some, X0_wanted q1, Option.bind_some, Option.bind_some, nI_1, show m_X0_read_L22 N N σ1 q t (nI (wN (T p))) (nI (p + 1)) 0 = r from hr]
  by_cases cp : prs T len (wN (T p)) (p + 1) = true
  · obtain ⟨g4, g5⟩ := g2 cp
    have e2 : sI (zup σ1 (q + 1) (.inl (1, 4, .inl f'))) 0 2 q (nI (psN T len (wN (T p)) (p + 1))) = some (zup (zup σ1 (q + 1) (.inl (1, 4, .inl f'))) q (.inr (0, [.ref (q + 1), .int (T p), .int (nI (psN T len (wN (T p)) (p + 1)))]))) := sI_at z1 (Nat.le_of_ble_eq_true rfl)
    have e3 := m _ g5
    rw [bs_inr, b2_some, e2, Option.bind_some] at e3
    have hc : Cm (zup (zup σ1 (q + 1) (.inl (1, 4, .inl f'))) q (.inr (0, [.ref (q + 1), .int (T p), .int (nI (psN T len (wN (T p)) (p + 1)))]))) q (T p) (nI (psN T len (wN (T p)) (p + 1))) f' := ⟨zup_same _ _ _, by rw [zup_ne _ _ (by omega), zup_same]⟩
    have hk : ∀ x, (x < q ∨ q + 2 ≤ x) → zup (zup σ1 (q + 1) (.inl (1, 4, .inl f'))) q (.inr (0, [.ref (q + 1), .int (T p), .int (nI (psN T len (wN (T p)) (p + 1)))])) x = σ x := fun x hx => by rw [zup_ne _ _ (by omega), zup_ne _ _ (by omega), o1 x (by omega)]
    by_cases cw : wN (T p) = 0
    · rw [if_pos (by rw [cw]; decide)] at e3
      exact ⟨fun q => absurd cw q.1, fun _ => ⟨_, e3, hc.cd, hk⟩⟩
    · rw [if_neg (nI_nle (by omega) (by omega))] at e3
      exact ⟨fun _ => ⟨_, f', e3, hc, fun j hj => by have := g4 j hj; rw [Nat.zero_add] at this; exact this, hk⟩, fun q => absurd ⟨cw, cp⟩ q⟩
  · have e3 := m _ (g3 (Bool.eq_false_iff.mpr cp))
    rw [bs_inl] at e3
    refine ⟨fun q => absurd q.2 cp, fun _ => ⟨_, e3, ⟨T p, e, f', z1, zup_same _ _ _⟩, fun x hx => by rw [zup_ne _ _ (by omega), o1 x (by omega)]⟩⟩
-- the reference
def Ob (o : Bool) : Int32 := if o then 1 else 0
theorem ckZ_ob (o : Bool) : ckZ (Ob o) = some (Ob o) := by cases o <;> rfl
def xE (M : Nat) (f6 f7 : Int32) (len p : Nat) (ok re ca : Int32) : zE := .inr (9, mF M f6 f7 (nI len) (nI p) ok re ca)
def Xm (σ : zS) (M : Nat) (f6 f7 : Int32) (len p : Nat) (ok re ca : Int32) (T : Nat → Int32) : Prop := σ M = some (xE M f6 f7 len p ok re ca) ∧ ∃ C : Nat → Int32, σ (M + 8) = some (.inl (1, 80, .inl C)) ∧ ∀ j, j < len → C j = T j
theorem Xm.set {σ : zS} {M len p : Nat} {f6 f7 ok re ca : Int32} {T : Nat → Int32} (h : Xm σ M f6 f7 len p ok re ca T) (p' : Nat) (ok' re' ca' : Int32) : Xm (zup σ M (xE M f6 f7 len p' ok' re' ca')) M f6 f7 len p' ok' re' ca' T := by
  obtain ⟨h1, C, h2, h3⟩ := h
  exact ⟨zup_same _ _ _, C, by rw [zup_ne _ _ (by omega)]; exact h2, h3⟩
theorem Xm.mb {σ : zS} {M len p : Nat} {f6 f7 ok re ca : Int32} {T : Nat → Int32} (h : Xm σ M f6 f7 len p ok re ca T) : MB σ M := ⟨_, _, _, _, _, _, _, h.1⟩
theorem Xm.here {N : Nat} {σ : zS} {M len p : Nat} {f6 f7 ok re ca : Int32} {T : Nat → Int32} (h : Xm σ M f6 f7 len p ok re ca T) (hl : len ≤ 80) (hp : p < 2 ^ 31) : m_X9_here N σ M = some (hrN T len p) := by
  have hb := h.mb.o.2.2.2.2
  obtain ⟨h1, C, h2, h3⟩ := h
  unfold m_X9_here hrN
  rw [gI_at h1 rfl, Option.bind_some, gI_at h1 rfl, Option.bind_some]
  by_cases c : p < len
  · rw [if_neg (nI_ge c (by omega)), hb, Option.bind_some, Option.bind_some, aI_at h2 rfl (by omega) (by decide), Option.bind_some, h3 p c, if_pos c]
  · rw [if_pos (nI_le (by omega) hp), if_neg c]
theorem Xm.must {N : Nat} {σ : zS} {M len p : Nat} {f6 f7 re ca v : Int32} {o : Bool} {T : Nat → Int32} (h : Xm σ M f6 f7 len p (Ob o) re ca T) (hl : len ≤ 80) (hp : p < 2 ^ 31) : m_X9_must N σ M v = some (zup σ M (xE M f6 f7 len (p + 1) (Ob (o && (hrN T len p == v))) re ca)) := by
  have e1 : (if Ob o = 0 then (some 0) else ((isO σ 9 M).bind fun u5 => (m_X9_here N σ M).bind fun x8 => if x8 = v then (some 1) else (some 0))) = some (Ob (o && (hrN T len p == v))) := by
    cases o
    · rfl
    · rw [if_neg (by decide), h.mb.o.1, Option.bind_some, h.here hl hp, Option.bind_some, Bool.true_and]
      by_cases c : hrN T len p = v
      · rw [if_pos c, show (hrN T len p == v) = true from beq_iff_eq.mpr c]
        rfl
      · rw [if_neg c, show (hrN T len p == v) = false from beq_eq_false_iff_ne.mpr c]
        rfl
  unfold m_X9_must
  rw [gI_at h.1 rfl, Option.bind_some, e1, Option.bind_some, ckZ_ob, Option.bind_some, sI_at h.1 (Nat.le_of_ble_eq_true rfl), Option.bind_some, gI_at (zup_same _ _ _) rfl, Option.bind_some, sI_at (zup_same _ _ _) (Nat.le_of_ble_eq_true rfl), Option.bind_some, zup_zup, nI_1]
  rfl
theorem hr_ch (T : Nat → Int32) (len p : Nat) : hrN T len p = chN T len p ∨ (hrN T len p = -1 ∧ chN T len p = 0) := by
  unfold hrN chN
  by_cases c : p < len
  · rw [if_pos c, if_pos c]
    exact Or.inl rfl
  · rw [if_neg c, if_neg c]
    exact Or.inr ⟨rfl, rfl⟩
theorem Xm.numL {N : Nat} {M len : Nat} {f6 f7 ok re ca : Int32} {T : Nat → Int32} (hl : len ≤ 80) : ∀ d j n v p (σ : zS), Xm σ M f6 f7 len p ok re ca T → j + d = 3 → d < n → p + d < 1000 → m_X9_number_L9 N n σ M v (nI j) = some (vlT T len (dgT T len d p) p v, nI (j + dgT T len d p), zup σ M (xE M f6 f7 len (p + dgT T len d p) ok re ca)) := by
  intro d
  induction d with
  | zero =>
    intro j n v p σ h hj hn hp
    obtain ⟨n, rfl⟩ : ∃ m, n = m + 1 := ⟨n - 1, by omega⟩
    rw [m_X9_number_L9, if_pos (by rw [show j = 3 by omega]; decide)]
    show _ = some (v, nI j, zup σ M (xE M f6 f7 len p ok re ca))
    rw [zup_id h.1]
  | succ d ih =>
    intro j n v p σ h hj hn hp
    obtain ⟨n, rfl⟩ : ∃ m, n = m + 1 := ⟨n - 1, by omega⟩
    have stop : dgT T len (d + 1) p = 0 → some (v, nI j, σ) = some (vlT T len (dgT T len (d + 1) p) p v, nI (j + dgT T len (d + 1) p), zup σ M (xE M f6 f7 len (p + dgT T len (d + 1) p) ok re ca)) := fun e => by
      rw [e]
      show _ = some (v, nI j, zup σ M (xE M f6 f7 len p ok re ca))
      rw [zup_id h.1]
    rw [m_X9_number_L9, if_neg (litge 3 (by omega) (by decide)), h.mb.o.1, Option.bind_some, h.here hl (by omega), Option.bind_some]
    unfold m_X9_in
    by_cases c1 : chN T len p < 48
    · have : hrN T len p < 48 := by
        rcases hr_ch T len p with q | ⟨q, -⟩
        · rw [q]; exact c1
        · rw [q]; decide
      rw [if_pos this, Option.bind_some, if_pos rfl]
      exact stop (by rw [dgT, if_pos c1])
    · have eh : hrN T len p = chN T len p := by
        rcases hr_ch T len p with q | ⟨-, q⟩
        · exact q
        · rw [q] at c1
          exact absurd (by decide) c1
      rw [eh, if_neg c1]
      by_cases c2 : 57 < chN T len p
      · rw [if_pos c2, Option.bind_some, if_pos rfl]
        exact stop (by rw [dgT, if_neg c1, if_pos c2])
      · have e9 : dgT T len (d + 1) p = dgT T len d (p + 1) + 1 := by rw [dgT, if_neg c1, if_neg c2]
        have := ih (j + 1) n (v * 10 + (chN T len p - 48)) (p + 1) _ (h.set (p + 1) ok re ca) (by omega) (by omega) (by omega)
        rw [if_neg c2, Option.bind_some, if_neg (by decide), Option.bind_some, Option.bind_some, Option.bind_some, Option.bind_some, gI_at h.1 rfl, Option.bind_some, sI_at h.1 (Nat.le_of_ble_eq_true rfl), Option.bind_some, nI_1, nI_1, show (10 : Int32) * v + chN T len p - 48 = v * 10 + (chN T len p - 48) by rw [Int32.mul_comm, Int32.sub_eq_add_neg, Int32.add_assoc, ← Int32.sub_eq_add_neg]]
        refine Eq.trans this ?_
        rw [zup_zup, e9, show j + 1 + dgT T len d (p + 1) = j + (dgT T len d (p + 1) + 1) by omega, show p + 1 + dgT T len d (p + 1) = p + (dgT T len d (p + 1) + 1) by omega]
        rfl
def nmP (T : Nat → Int32) (len p : Nat) : Nat := p + 1 + dgT T len 3 (p + 1)
def nmO (T : Nat → Int32) (len p : Nat) (v : Int32) : Bool := (hrN T len p == v) && decide (0 < dgT T len 3 (p + 1))
def nmV (T : Nat → Int32) (len p : Nat) : Int32 := vlT T len (dgT T len 3 (p + 1)) (p + 1) 0
theorem Xm.number {N : Nat} {σ : zS} {M len p : Nat} {f6 f7 re ca v : Int32} {o : Bool} {T : Nat → Int32} (hN : 50 < N) (h : Xm σ M f6 f7 len p (Ob o) re ca T) (hl : len ≤ 80) (hp : p < 900) : m_X9_number N σ M v = some (nmV T len p, zup σ M (xE M f6 f7 len (nmP T len p) (Ob (o && nmO T len p v)) re ca)) := by
  have hd := dgT_le T len 3 (p + 1)
  have h1 := h.set (p + 1) (Ob (o && (hrN T len p == v))) re ca
  have e1 := Xm.numL (N := N) hl 3 0 N 0 (p + 1) _ h1 rfl (by omega) (by omega)
  rw [Nat.zero_add, zup_zup] at e1
  have h2 := h.set (nmP T len p) (Ob (o && (hrN T len p == v))) re ca
  unfold m_X9_number
  rw [h.mb.o.1, Option.bind_some, h.must hl (by omega), Option.bind_some, show m_X9_number_L9 N N (zup σ M (xE M f6 f7 len (p + 1) (Ob (o && (hrN T len p == v))) re ca)) M 0 0 = _ from e1, b3_some]
  have e2 : (if Ob (o && (hrN T len p == v)) = 0 then some (0 : Int32) else if nI (dgT T len 3 (p + 1)) ≤ 0 then some 0 else some 1) = some (Ob (o && nmO T len p v)) := by
    unfold nmO
    rw [← Bool.and_assoc]
    cases (o && (hrN T len p == v))
    · rfl
    · rw [if_neg (by decide), Bool.true_and]
      by_cases c : 0 < dgT T len 3 (p + 1)
      · rw [if_neg (show ¬ nI (dgT T len 3 (p + 1)) ≤ 0 from nI_ge c (by omega)), decide_eq_true c]
        rfl
      · rw [show dgT T len 3 (p + 1) = 0 by omega]
        rfl
  rw [show zup σ M (xE M f6 f7 len (p + 1 + dgT T len 3 (p + 1)) (Ob (o && (hrN T len p == v))) re ca) = zup σ M (xE M f6 f7 len (nmP T len p) (Ob (o && (hrN T len p == v))) re ca) from rfl, gI_at h2.1 rfl, Option.bind_some, e2, Option.bind_some, ckZ_ob, Option.bind_some, sI_at h2.1 (Nat.le_of_ble_eq_true rfl), Option.bind_some, zup_zup]
  rfl
theorem nmP_le (T : Nat → Int32) (len p : Nat) : nmP T len p ≤ p + 4 := by
  have := dgT_le T len 3 (p + 1)
  unfold nmP
  omega
theorem hr_eq {T : Nat → Int32} {len p : Nat} {v : Int32} (h1 : v ≠ -1) (h0 : v ≠ 0) : (hrN T len p == v) = (chN T len p == v) := by
  rcases hr_ch T len p with q | ⟨q, q'⟩
  · rw [q]
  · rw [q, q', beq_eq_false_iff_ne.mpr h1.symm, beq_eq_false_iff_ne.mpr h0.symm]
theorem b2_eta {α β : Type} (x : Option (α × β)) : (b2 x fun a b => some (a, b)) = x := by
  cases x with
  | none => rfl
  | some p => rfl
