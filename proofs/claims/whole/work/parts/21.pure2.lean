/-! Pure, 2: hashes, ranks, the place of a hash, what a hash changes in a row, in a sketch -/
theorem irem_nI {a d : Nat} (ha : a < 2 ^ 31) (h0 : 0 < d) (hd : d < 2 ^ 31) : irem (nI a) (nI d) = nI (a % d) := pk_rem ha h0 hd
def hshA (t s : Nat) : Nat := (t * 40503 + s * 9973 + 7919) % 65536
def hshB (t s : Nat) : Nat := ((hshA t s ^^^ (hshA t s / 128)) * 25173) % 65536
def hsh (t s : Nat) : Nat := hshB t s ^^^ (hshB t s / 256)
theorem xor_lt16 {a b : Nat} (ha : a < 65536) (hb : b < 65536) : a ^^^ b < 65536 := Nat.xor_lt_two_pow (n := 16) ha hb
theorem hsh_lt (t s : Nat) : hsh t s < 65536 := by
  have h1 : hshB t s < 65536 := Nat.mod_lt _ (by decide)
  have := Nat.div_le_self (hshB t s) 256
  exact xor_lt16 h1 (by omega)
theorem nx_xor' (a b : Nat) : nI a ^^^ nI b = nI (a ^^^ b) := by
  apply Int32.toBitVec_inj.1
  show BitVec.ofNat 32 a ^^^ BitVec.ofNat 32 b = BitVec.ofNat 32 (a ^^^ b)
  apply BitVec.eq_of_getLsbD_eq
  intro i hi
  simp [hi]
theorem X9_hashOf {N : Nat} {σ : zS} {t s : Nat} (ht : t < 1000) (hs : s ≤ 9) : m_X9_hashOf N σ (nI t) (nI s) = some (nI (hsh t s)) := by
  unfold m_X9_hashOf
  have a1 : hshA t s < 65536 := Nat.mod_lt _ (by decide)
  have a2 : hshB t s < 65536 := Nat.mod_lt _ (by decide)
  have a3 : (hshA t s ^^^ (hshA t s / 128)) < 65536 := xor_lt16 a1 (by have := Nat.div_le_self (hshA t s) 128; omega)
  have e1 : irem (nI t * 40503 + nI s * 9973 + 7919) 65536 = nI (hshA t s) := by
    rw [show (40503 : Int32) = nI 40503 from rfl, show (9973 : Int32) = nI 9973 from rfl, show (7919 : Int32) = nI 7919 from rfl, show (65536 : Int32) = nI 65536 from rfl, pk_mul, pk_mul, nI_add, nI_add, irem_nI (by omega) (by decide) (by decide)]
    rfl
  rw [e1, Option.bind_some, show (128 : Int32) = nI 128 from rfl, pk_div (by omega) (by decide) (by decide), nx_xor', show (25173 : Int32) = nI 25173 from rfl, pk_mul, show (65536 : Int32) = nI 65536 from rfl, irem_nI (by omega) (by decide) (by decide), Option.bind_some]
  show some (nI (hshB t s) ^^^ (nI (hshB t s) / 256)) = _
  rw [show (256 : Int32) = nI 256 from rfl, pk_div (by omega) (by decide) (by decide), nx_xor']
  rfl
theorem X8_hashOf {N : Nat} {σ : zS} {t s : Nat} (ht : t < 1000) (hs : s ≤ 9) : m_X8_hashOf N σ (nI t) (nI s) = some (nI (hsh t s)) := X9_hashOf (N := N) (σ := σ) ht hs
-- ranks
def rkS : Nat → Nat → Nat → Nat
  | 0, k, _ => k
  | f + 1, k, v => if v % 2 = 0 then rkS f (k + 1) (v / 2) else k
theorem rkS_in : ∀ f k v, k ≤ rkS f k v ∧ rkS f k v ≤ k + f
  | 0, k, v => ⟨Nat.le_refl _, Nat.le_refl _⟩
  | f + 1, k, v => by
    rw [rkS]
    split
    · have := rkS_in f (k + 1) (v / 2)
      omega
    · omega
theorem X8_rank_L {N : Nat} {σ : zS} : ∀ f k v n, k + f = 14 → f < n → v < 2 ^ 13 → m_X8_rankOf_L4 N n σ (nI k) (nI v) = some (nI (rkS f k v)) := by
  intro f
  induction f with
  | zero =>
    intro k v n hk hn hv
    obtain ⟨n, rfl⟩ : ∃ m, n = m + 1 := ⟨n - 1, by omega⟩
    rw [m_X8_rankOf_L4, show k = 14 by omega, if_pos (by decide), rkS]
  | succ f ih =>
    intro k v n hk hn hv
    obtain ⟨n, rfl⟩ : ∃ m, n = m + 1 := ⟨n - 1, by omega⟩
    rw [m_X8_rankOf_L4, if_neg (show ¬ (14 : Int32) ≤ nI k from le_neg (a := 14) (by omega) (by decide)), show (2 : Int32) = nI 2 from rfl, irem_nI (by omega) (by decide) (by decide), rkS]
    by_cases h : v % 2 = 0
    · rw [h, if_pos nI_0, if_pos rfl, pk_div (by omega) (by decide) (by decide), Option.bind_some, Option.bind_some, nI_1]
      exact ih (k + 1) (v / 2) n (by omega) (by omega) (by omega)
    · rw [if_neg h, if_neg (nI_ne0 (by omega) (by omega))]
theorem X8_rankOf {N : Nat} {σ : zS} {v : Nat} (hN : 50 < N) (hv : v < 2 ^ 13) : m_X8_rankOf N σ (nI v) = some (nI (rkS 13 1 v)) := by
  unfold m_X8_rankOf
  rw [show (1 : Int32) = nI 1 from rfl, X8_rank_L 13 1 v N rfl (by omega) hv, Option.bind_some]
theorem X9_rank_L {N : Nat} {σ : zS} : ∀ f k v n, k + f = 14 → f < n → 0 < v → v < 2 ^ f → m_X9_rank_L11 N n σ (nI k) (nI v) = some (nI (rkS f k v)) := by
  intro f
  induction f with
  | zero =>
    intro k v n hk hn h0 hv
    omega
  | succ f ih =>
    intro k v n hk hn h0 hv
    obtain ⟨n, rfl⟩ : ∃ m, n = m + 1 := ⟨n - 1, by omega⟩
    have hp : v < 2 ^ 14 := Nat.lt_of_lt_of_le hv (Nat.pow_le_pow_right (by decide) (by omega))
    rw [m_X9_rank_L11, show (2 : Int32) = nI 2 from rfl, irem_nI (by omega) (by decide) (by decide), rkS]
    by_cases h : v % 2 = 0
    · rw [h, if_pos nI_0, if_pos rfl, pk_div (by omega) (by decide) (by decide), Option.bind_some, Option.bind_some, nI_1]
      exact ih (k + 1) (v / 2) n (by omega) (by omega) (by omega) (by rw [Nat.pow_succ] at hv; omega)
    · rw [if_neg h, if_neg (nI_ne0 (by omega) (by omega))]
theorem X9_rank {N : Nat} {σ : zS} {v : Nat} (hN : 50 < N) (hv : v < 2 ^ 13) : m_X9_rank N σ (nI v) = some (nI (rkS 13 1 v)) := by
  unfold m_X9_rank
  by_cases h : v = 0
  · subst h
    rw [if_pos nI_0]
    rfl
  · rw [if_neg (nI_ne0 (by omega) (by omega)), show (1 : Int32) = nI 1 from rfl, X9_rank_L 13 1 v N rfl (by omega) (by omega) hv, Option.bind_some]
-- the place of a hash: r (6 + i), i < k, are kept
def plS (r : Nat → Int32) (h : Int32) : Nat → Nat → Nat
  | 0, i => i
  | d + 1, i => if h ≤ r (6 + i) then i else plS r h d (i + 1)
theorem plS_in (r : Nat → Int32) (h : Int32) : ∀ d i, i ≤ plS r h d i ∧ plS r h d i ≤ i + d
  | 0, i => ⟨Nat.le_refl _, Nat.le_refl _⟩
  | d + 1, i => by
    rw [plS]
    split
    · omega
    · have := plS_in r h d (i + 1)
      omega
def plN (r : Nat → Int32) (h : Int32) : Nat := plS r h (ktN r) 0
theorem plN_le (r : Nat → Int32) (h : Int32) : plN r h ≤ ktN r := by
  have := plS_in r h (ktN r) 0
  unfold plN
  omega
theorem X9_place {N : Nat} {σ : zS} {A o : Nat} {r : Nat → Int32} {h : Int32} (hR : Rw σ A o r) (hr : rW r) : ∀ d i n, i + d = ktN r → d < n → m_X9_keepHash_L2 N n σ A (nI o) h (nI i) = some (nI (plS r h d i)) := by
  have hk := hr.kt
  intro d
  induction d with
  | zero =>
    intro i n hi hn
    obtain ⟨n, rfl⟩ : ∃ m, n = m + 1 := ⟨n - 1, by omega⟩
    rw [m_X9_keepHash_L2, hR.rd (j := 5) (by omega) (by simp only [nlit, nI_add]), Option.bind_some, if_pos (by rw [hk.2, show i = ktN r by omega]; exact nI_le (Nat.le_refl _) (by omega)), plS]
  | succ d ih =>
    intro i n hi hn
    obtain ⟨n, rfl⟩ : ∃ m, n = m + 1 := ⟨n - 1, by omega⟩
    rw [m_X9_keepHash_L2, hR.rd (j := 5) (by omega) (by simp only [nlit, nI_add]), Option.bind_some, if_neg (by rw [hk.2]; exact nI_ge (by omega) (by omega)), hR.rd (j := 6 + i) (by omega) (by simp only [nlit, nI_add]; congr 1; omega), Option.bind_some, plS]
    by_cases hc : h ≤ r (6 + i)
    · rw [if_pos hc, if_pos hc]
    · rw [if_neg hc, if_neg hc, Option.bind_some, nI_1]
      exact ih (i + 1) n (by omega) (by omega)
theorem X3_place_L {N : Nat} {σ : zS} {q : Nat} {r : Nat → Int32} {h : Int32} (hR : Sk σ q r) (hr : rW r) : ∀ d i n, i + d = ktN r → d < n → m_X3_placeOf_L2 N n σ q h (nI i) = some (nI (plS r h d i)) := by
  have hk := hr.kt
  obtain ⟨hs, rg, h1, h2, h3, h4, h5⟩ := hR
  intro d
  induction d with
  | zero =>
    intro i n hi hn
    obtain ⟨n, rfl⟩ : ∃ m, n = m + 1 := ⟨n - 1, by omega⟩
    rw [m_X3_placeOf_L2, gI_at h1 rfl, Option.bind_some, if_pos (by rw [hk.2, show i = ktN r by omega]; exact nI_le (Nat.le_refl _) (by omega)), plS]
  | succ d ih =>
    intro i n hi hn
    obtain ⟨n, rfl⟩ : ∃ m, n = m + 1 := ⟨n - 1, by omega⟩
    rw [m_X3_placeOf_L2, gI_at h1 rfl, Option.bind_some, if_neg (by rw [hk.2]; exact nI_ge (by omega) (by omega)), if_neg (show ¬ (8 : Int32) ≤ nI i from le_neg (a := 8) (by omega) (by decide)), gA_at h1 rfl, Option.bind_some, aI_at h2 rfl (by omega) (by decide), Option.bind_some, h4 i (by omega) (by rw [hk.2]; exact nI_lt (by omega) (by omega)), plS]
    by_cases hc : h ≤ r (6 + i)
    · rw [if_pos hc, if_pos hc]
    · rw [if_neg hc, if_neg hc, Option.bind_some, nI_1]
      exact ih (i + 1) n (by omega) (by omega)
theorem X3_placeOf {N : Nat} {σ : zS} {q : Nat} {r : Nat → Int32} {h : Int32} (hN : 50 < N) (hR : Sk σ q r) (hr : rW r) : m_X3_placeOf N σ q h = some (nI (plN r h)) := by
  unfold m_X3_placeOf
  have := hr.kt
  rw [show (0 : Int32) = nI 0 from rfl, X3_place_L hR hr (ktN r) 0 N (by omega) (by omega), Option.bind_some]
  rfl
-- a stretch moved one place up
def shf (f : Nat → Int32) (a d : Nat) : Nat → Int32 := fun x => if a < x ∧ x ≤ a + d then f (x - 1) else f x
theorem shf_0 (f : Nat → Int32) (a : Nat) : shf f a 0 = f := by
  funext x
  unfold shf
  rw [if_neg (by omega)]
theorem shf_s (f : Nat → Int32) (a d : Nat) : shf (upd f (a + d + 1) (f (a + d))) a d = shf f a (d + 1) := by
  funext x
  unfold shf
  by_cases h : a < x ∧ x ≤ a + d
  · rw [if_pos h, if_pos (by omega), upd_ne _ _ (by omega)]
  · rw [if_neg h]
    by_cases h2 : x = a + d + 1
    · subst h2
      rw [upd_same, if_pos (by omega)]
      rfl
    · rw [upd_ne _ _ h2, if_neg (by omega)]
theorem zup_zup (σ : zS) (q : Nat) (e e' : zE) : zup (zup σ q e) q e' = zup σ q e' := by
  funext x
  unfold zup
  by_cases h : x = q <;> simp [h]
theorem zup_id {σ : zS} {q : Nat} {e : zE} (h : σ q = some e) : zup σ q e = σ := by
  funext x
  unfold zup
  by_cases hx : x = q
  · rw [if_pos hx, hx, h]
  · rw [if_neg hx]
theorem X9_shift {N : Nat} {A n0 o i : Nat} {h v5 : Int32} (hn0 : n0 < 100000) : ∀ d n (σ : zS) (F : Nat → Int32), σ A = some (.inl (1, n0, .inl F)) → o + 6 + i + d < n0 → d < n → m_X9_keepHash_L95 N n σ A (nI o) h (nI i) v5 (nI (i + d)) = some (zup σ A (.inl (1, n0, .inl (shf F (o + 6 + i) d)))) := by
  intro d
  induction d with
  | zero =>
    intro n σ F hA hb hn
    obtain ⟨n, rfl⟩ : ∃ m, n = m + 1 := ⟨n - 1, by omega⟩
    rw [show i + 0 = i from rfl, m_X9_keepHash_L95, if_pos (nI_le (Nat.le_refl _) (by omega)), shf_0, zup_id hA]
  | succ d ih =>
    intro n σ F hA hb hn
    obtain ⟨n, rfl⟩ : ∃ m, n = m + 1 := ⟨n - 1, by omega⟩
    rw [m_X9_keepHash_L95, if_neg (nI_ge (by omega) (by omega)), aI_at hA (k := o + 6 + i + d) (by simp only [nlit, nI_add]; rw [pk_sub (by omega)]; congr 1; omega) (by omega) (by omega), Option.bind_some, uI_at hA (k := o + 6 + i + d + 1) (by simp only [nlit, nI_add]; congr 1; omega) (by omega) (by omega), Option.bind_some, Option.bind_some, show i + (d + 1) = i + d + 1 by omega, pk_m1, ih n _ _ (zup_same _ _ _) (by omega) (by omega), zup_zup, shf_s]
theorem X3_shift {N : Nat} {q i : Nat} {h : Int32} {fs : List Value} (hq5 : fs[5]? = some (.ref (q + 1))) : ∀ d n (σ : zS) (F : Nat → Int32), σ q = some (.inr (3, fs)) → σ (q + 1) = some (.inl (1, 8, .inl F)) → i + d < 8 → d < n → m_X3_keepHash_L34 N n σ q h (nI i) (nI (i + d)) = some (zup σ (q + 1) (.inl (1, 8, .inl (shf F i d)))) := by
  intro d
  induction d with
  | zero =>
    intro n σ F h1 hA hb hn
    obtain ⟨n, rfl⟩ : ∃ m, n = m + 1 := ⟨n - 1, by omega⟩
    rw [show i + 0 = i from rfl, m_X3_keepHash_L34, if_pos (nI_le (Nat.le_refl _) (by omega)), shf_0, zup_id hA]
  | succ d ih =>
    intro n σ F h1 hA hb hn
    obtain ⟨n, rfl⟩ : ∃ m, n = m + 1 := ⟨n - 1, by omega⟩
    rw [m_X3_keepHash_L34, if_neg (nI_ge (by omega) (by omega)), gA_at h1 hq5, Option.bind_some, Option.bind_some, aI_at hA (k := i + d) (by rw [show (1 : Int32) = nI 1 from rfl, pk_sub (by omega)]; congr 1) (by omega) (by decide), Option.bind_some, uI_at hA (k := i + d + 1) (by congr 1) (by omega) (by decide), Option.bind_some, Option.bind_some, show i + (d + 1) = i + d + 1 by omega, pk_m1, ih n _ _ (by rw [zup_ne _ _ (by omega)]; exact h1) (zup_same _ _ _) (by omega) (by omega), zup_zup, shf_s]
-- what a hash changes in a row
def khR (r : Nat → Int32) (h : Int32) : Nat → Int32 := fun j =>
  if plN r h = 8 ∨ (plN r h < ktN r ∧ r (6 + plN r h) = h) then r j
  else if j = 5 then nI (min (ktN r + 1) 8)
  else if j = 6 + plN r h then h
  else shf r (6 + plN r h) (min (ktN r) 7 - plN r h) j
/-- a row of the array at A is changed to r', all else stays -/
def RU (σ : zS) (A n : Nat) (F : Nat → Int32) (o : Nat) (r' : Nat → Int32) (σ' : zS) : Prop := ∃ F' : Nat → Int32, σ' = zup σ A (.inl (1, n, .inl F')) ∧ (∀ j, j < 23 → F' (o + j) = r' j) ∧ ∀ x, x < n → (x < o ∨ o + 23 ≤ x) → F' x = F x
theorem X9_keepHash {N : Nat} {σ : zS} {A n o : Nat} {F r : Nat → Int32} {h : Nat} (hN : 50 < N) (hA : σ A = some (.inl (1, n, .inl F))) (hn : n < 100000) (ho : o + 23 ≤ n) (hF : ∀ j, j < 23 → F (o + j) = r j) (hr : rW r) : ∃ σ', m_X9_keepHash N σ A (nI o) (nI h) = some σ' ∧ RU σ A n F o (khR r (nI h)) σ' := by
  have hR : Rw σ A o r := ⟨n, F, hA, ho, hn, hF⟩
  have hk := hr.kt
  have hp := plN_le r (nI h)
  unfold m_X9_keepHash
  rw [show (0 : Int32) = nI 0 from rfl, X9_place hR hr (ktN r) 0 N (by omega) (by omega), Option.bind_some, hR.rd (j := 5) (by omega) (by simp only [nlit, nI_add]), Option.bind_some, show plS r (nI h) (ktN r) 0 = plN r (nI h) from rfl]
  have ek : ∃ y : Int32, (if r 5 ≤ nI (plN r (nI h)) then some (nI 0) else ((aI 1 σ A (nI o + 6 + nI (plN r (nI h)))).bind fun x15 => if x15 = nI h then some 1 else some (nI 0))) = some y ∧ (y = nI 0 ↔ ¬ (plN r (nI h) < ktN r ∧ r (6 + plN r (nI h)) = nI h)) := by
    by_cases c : ktN r ≤ plN r (nI h)
    · exact ⟨nI 0, by rw [if_pos (by rw [hk.2]; exact nI_le c (by omega))], ⟨fun _ q => by omega, fun _ => rfl⟩⟩
    · rw [if_neg (by rw [hk.2]; exact nI_ge (by omega) (by omega)), hR.rd (j := 6 + plN r (nI h)) (by omega) (by simp only [nlit, nI_add]; congr 1; omega), Option.bind_some]
      by_cases c2 : r (6 + plN r (nI h)) = nI h
      · exact ⟨1, by rw [if_pos c2], ⟨fun q => absurd q (by decide), fun q => absurd ⟨by omega, c2⟩ q⟩⟩
      · exact ⟨nI 0, by rw [if_neg c2], ⟨fun _ q => c2 q.2, fun _ => rfl⟩⟩
  obtain ⟨y, e1, e2⟩ := ek
  rw [e1, Option.bind_some]
  by_cases c : plN r (nI h) < ktN r ∧ r (6 + plN r (nI h)) = nI h
  · rw [if_neg (fun q => (e2.mp q) c)]
    refine ⟨σ, rfl, F, (zup_id hA).symm, fun j hj => ?_, fun x _ _ => rfl⟩
    unfold khR
    rw [if_pos (Or.inr c)]
    exact hF j hj
  · rw [if_pos (e2.mpr c)]
    by_cases c8 : plN r (nI h) = 8
    · rw [if_pos (by rw [c8]; rfl)]
      refine ⟨σ, rfl, F, (zup_id hA).symm, fun j hj => ?_, fun x _ _ => rfl⟩
      unfold khR
      rw [if_pos (Or.inl c8)]
      exact hF j hj
    · rw [if_neg (by rw [show (8 : Int32) = nI 8 from rfl, nI_eq (by omega) (by decide)]; exact c8), Option.bind_some]
      have el : (if (8 : Int32) ≤ r 5 then some (7 : Int32) else (some (r 5)).bind fun x25 => some x25) = some (nI (min (ktN r) 7)) := by
        by_cases c5 : 8 ≤ ktN r
        · rw [if_pos (by rw [hk.2]; exact nI_le (a := 8) c5 (by omega)), Nat.min_eq_right (by omega)]
          rfl
        · rw [if_neg (by rw [hk.2]; exact nI_ge (b := 8) (by omega) (by decide)), Option.bind_some, Nat.min_eq_left (by omega), hk.2]
      rw [el, Option.bind_some]
      have hl : plN r (nI h) ≤ min (ktN r) 7 := by omega
      obtain ⟨d, hd⟩ : ∃ d, min (ktN r) 7 = plN r (nI h) + d := ⟨min (ktN r) 7 - plN r (nI h), by omega⟩
      rw [hd, X9_shift hn d N σ F hA (by omega) (by omega), Option.bind_some, uI_at (zup_same _ _ _) (k := o + 6 + plN r (nI h)) (by simp only [nlit, nI_add]) (by omega) (by omega), Option.bind_some, zup_zup, uI_at (zup_same _ _ _) (k := o + 5) (by simp only [nlit, nI_add]) (by omega) (by omega), Option.bind_some, zup_zup, nI_1]
      refine ⟨_, rfl, _, rfl, fun j hj => ?_, fun x hx hxo => ?_⟩
      · unfold khR
        rw [if_neg (fun q => q.elim c8 c)]
        by_cases j5 : j = 5
        · subst j5
          rw [upd_same, if_pos rfl]
          congr 1
          omega
        · rw [upd_ne _ _ (by omega), if_neg j5]
          by_cases jp : j = 6 + plN r (nI h)
          · rw [show o + j = o + 6 + plN r (nI h) by omega, upd_same, if_pos jp]
          · rw [upd_ne _ _ (by omega), if_neg jp]
            unfold shf
            rw [show min (ktN r) 7 - plN r (nI h) = d by omega]
            by_cases cs : 6 + plN r (nI h) < j ∧ j ≤ 6 + plN r (nI h) + d
            · rw [if_pos cs, if_pos (by omega), show o + j - 1 = o + (j - 1) by omega, hF (j - 1) (by omega)]
            · rw [if_neg cs, if_neg (by omega), hF j hj]
      · rw [upd_ne _ _ (by omega), upd_ne _ _ (by omega)]
        unfold shf
        rw [if_neg (by omega)]
/-- a sketch is changed to r', all else stays -/
def SU (σ : zS) (q : Nat) (r' : Nat → Int32) (σ' : zS) : Prop := Sk σ' q r' ∧ ∀ a, (a < q ∨ q + 3 ≤ a) → σ' a = σ a
theorem khR_get (r : Nat → Int32) (h : Int32) {j : Nat} (h5 : j ≠ 5) (h6 : j < 6 ∨ 14 ≤ j) (hk : ktN r ≤ 8) : khR r h j = r j := by
  have hp := plN_le r h
  unfold khR
  by_cases c : plN r h = 8 ∨ (plN r h < ktN r ∧ r (6 + plN r h) = h)
  · rw [if_pos c]
  · have c8 : plN r h ≠ 8 := fun z => c (Or.inl z)
    rw [if_neg c, if_neg h5, if_neg (by omega)]
    unfold shf
    rw [if_neg (by omega)]
theorem X3_kh_tail {N : Nat} {σ : zS} {q : Nat} {r : Nat → Int32} {h : Nat} (hN : 50 < N) (hR : Sk σ q r) (hr : rW r) (c8 : plN r (nI h) ≠ 8) (c : ¬ (plN r (nI h) < ktN r ∧ r (6 + plN r (nI h)) = nI h)) :
    ∃ σ', ((m_X3_keepHash_L34 N N σ q (nI h) (nI (plN r (nI h))) 7).bind fun σ20 => (gA σ20 3 5 q).bind fun a22 => (uI 1 σ20 a22 (nI (plN r (nI h))) (nI h)).bind fun σ24 => (gI σ24 3 4 q).bind fun x26 => (sI σ24 3 4 q (imin (x26 + 1) 8)).bind fun σ28 => some σ28) = some σ' ∧ SU σ q (khR r (nI h)) σ' := by
  have hk := hr.kt
  have hp := plN_le r (nI h)
  obtain ⟨hs, rg, h1, h2, h3, h4, h5⟩ := hR
  obtain ⟨d, hd⟩ : ∃ d, 7 = plN r (nI h) + d := ⟨7 - plN r (nI h), by omega⟩
  rw [show (7 : Int32) = nI (plN r (nI h) + d) by rw [← hd]; rfl, X3_shift (fs := [.int (r 0), .int (r 1), .int (r 2), .int (r 4), .int (r 5), .ref (q + 1), .ref (q + 2)]) rfl d N σ hs h1 h2 (by omega) (by omega), Option.bind_some,
    gA_at (show zup σ (q + 1) _ q = some _ by rw [zup_ne _ _ (by omega)]; exact h1) rfl, Option.bind_some, uI_at (zup_same _ _ _) rfl (by omega) (by decide), Option.bind_some, zup_zup,
    gI_at (show zup σ (q + 1) _ q = some _ by rw [zup_ne _ _ (by omega)]; exact h1) rfl, Option.bind_some, sI_at (show zup σ (q + 1) _ q = some _ by rw [zup_ne _ _ (by omega)]; exact h1) (Nat.le_of_ble_eq_true rfl), Option.bind_some]
  refine ⟨_, rfl, ⟨upd (shf hs (plN r (nI h)) d) (plN r (nI h)) (nI h), rg, ?_, ?_, ?_, ?_, ?_⟩, ?_⟩
  · rw [zup_same]
    have e5 : khR r (nI h) 5 = nI (min (ktN r + 1) 8) := by unfold khR; rw [if_neg (fun z => z.elim c8 c), if_pos rfl]
    rw [khR_get r _ (j := 0) (by omega) (by omega) hk.1, khR_get r _ (j := 1) (by omega) (by omega) hk.1, khR_get r _ (j := 2) (by omega) (by omega) hk.1, khR_get r _ (j := 4) (by omega) (by omega) hk.1, e5]
    rw [hk.2, nI_1, show (8 : Int32) = nI 8 from rfl, imin_nI (by omega) (by decide)]
    rfl
  · rw [zup_ne _ _ (by omega), zup_same]
  · rw [zup_ne _ _ (by omega), zup_ne _ _ (by omega)]
    exact h3
  · intro j hj hlt
    have e5 : khR r (nI h) 5 = nI (min (ktN r + 1) 8) := by unfold khR; rw [if_neg (fun z => z.elim c8 c), if_pos rfl]
    rw [e5, nI_ltI (by omega) (by omega)] at hlt
    unfold khR
    rw [if_neg (fun z => z.elim c8 c), if_neg (by omega)]
    by_cases jp : j = plN r (nI h)
    · rw [jp, upd_same, if_pos rfl]
    · rw [upd_ne _ _ jp, if_neg (by omega)]
      unfold shf
      by_cases cs : plN r (nI h) < j
      · rw [if_pos (by omega), if_pos (by omega), h4 (j - 1) (by omega) (by rw [hk.2]; exact nI_lt (by omega) (by omega))]
        congr 1
        omega
      · rw [if_neg (by omega), if_neg (by omega), h4 j hj (by rw [hk.2]; exact nI_lt (by omega) (by omega))]
  · intro j hj
    rw [h5 j hj, khR_get r _ (by omega) (by omega) hk.1]
  · intro a ha
    rw [zup_ne _ _ (by omega), zup_ne _ _ (by omega)]
theorem X3_keepHash {N : Nat} {σ : zS} {q : Nat} {r : Nat → Int32} {h : Nat} (hN : 50 < N) (hR : Sk σ q r) (hr : rW r) : ∃ σ', m_X3_keepHash N σ q (nI h) = some σ' ∧ SU σ q (khR r (nI h)) σ' := by
  have hk := hr.kt
  have hp := plN_le r (nI h)
  have ht := X3_kh_tail (h := h) hN hR hr
  have hpl := X3_placeOf (h := nI h) hN hR hr
  have hR' := hR
  obtain ⟨hs, rg, h1, h2, h3, h4, h5⟩ := hR
  unfold m_X3_keepHash
  rw [isO_at h1, Option.bind_some, hpl, Option.bind_some]
  by_cases c8 : plN r (nI h) = 8
  · rw [if_pos (by rw [c8]; decide)]
    refine ⟨σ, rfl, ?_, fun _ _ => rfl⟩
    have e : khR r (nI h) = r := by funext j; unfold khR; rw [if_pos (Or.inl c8)]
    rw [e]
    exact hR'
  · rw [if_neg (show ¬ (8 : Int32) ≤ _ from le_neg (a := 8) (by omega) (by decide)), gI_at h1 rfl, Option.bind_some]
    by_cases ck : ktN r ≤ plN r (nI h)
    · rw [if_pos (by rw [hk.2]; exact nI_le ck (by omega))]
      exact ht c8 (fun z => by omega)
    · rw [if_neg (by rw [hk.2]; exact nI_ge (by omega) (by omega)), gA_at h1 rfl, Option.bind_some, aI_at h2 rfl (by omega) (by decide), Option.bind_some, h4 _ (by omega) (by rw [hk.2]; exact nI_lt (by omega) (by omega))]
      by_cases ce : r (6 + plN r (nI h)) = nI h
      · rw [if_pos ce]
        refine ⟨σ, rfl, ?_, fun _ _ => rfl⟩
        have e : khR r (nI h) = r := by funext j; unfold khR; rw [if_pos (Or.inr ⟨by omega, ce⟩)]
        rw [e]
        exact hR'
      · rw [if_neg ce]
        exact ht c8 (fun z => ce z.2)
