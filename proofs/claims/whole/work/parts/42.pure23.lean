/-! Pure, 23: a command of the reference -/
theorem one_eq {T : Nat → Int32} {len p : Nat} {c : Int32} (hc : hrN T len p = c) : ((true && nmO T len p c) && (hrN T len (nmP T len p) == 59)) = prs T len 1 (p + 1) := by
  have a1 : (hrN T len p == c) = true := beq_iff_eq.mpr hc
  have a2 : (hrN T len (nmP T len p) == 59) = (chN T len (nmP T len p) == 59) := hr_eq (by decide) (by decide)
  show ((true && ((hrN T len p == c) && decide (0 < dgT T len 3 (p + 1)))) && (hrN T len (nmP T len p) == 59)) = ((decide (0 < dgT T len 3 (p + 1)) && (chN T len (nmP T len p) == 59)) && true)
  rw [a1, a2]
  simp only [Bool.true_and, Bool.and_true]
theorem two_eq {T : Nat → Int32} {len p : Nat} {c : Int32} (hc : hrN T len p = c) : (((true && nmO T len p c) && nmO T len (nmP T len p) 44) && (hrN T len (nmP T len (nmP T len p)) == 59)) = prs T len 2 (p + 1) := by
  have a1 : (hrN T len p == c) = true := beq_iff_eq.mpr hc
  have a2 : (hrN T len (nmP T len p) == 44) = (chN T len (nmP T len p) == 44) := hr_eq (by decide) (by decide)
  have a3 : (hrN T len (nmP T len (nmP T len p)) == 59) = (chN T len (nmP T len (nmP T len p)) == 59) := hr_eq (by decide) (by decide)
  show (((true && ((hrN T len p == c) && decide (0 < dgT T len 3 (p + 1)))) && ((hrN T len (nmP T len p) == 44) && decide (0 < dgT T len 3 (nmP T len p + 1)))) && (hrN T len (nmP T len (nmP T len p)) == 59)) = ((decide (0 < dgT T len 3 (p + 1)) && (chN T len (nmP T len p) == 44)) && ((decide (0 < dgT T len 3 (nmP T len p + 1)) && (chN T len (nmP T len (nmP T len p)) == 59)) && true))
  rw [a1, a2, a3]
  simp only [Bool.true_and, Bool.and_true, Bool.and_assoc]
theorem four_eq {T : Nat → Int32} {len p : Nat} {c : Int32} (hc : hrN T len p = c) : (((((true && nmO T len p c) && nmO T len (nmP T len p) 44) && nmO T len (nmP T len (nmP T len p)) 44) && nmO T len (nmP T len (nmP T len (nmP T len p))) 44) && (hrN T len (nmP T len (nmP T len (nmP T len (nmP T len p)))) == 59)) = prs T len 4 (p + 1) := by
  have a1 : (hrN T len p == c) = true := beq_iff_eq.mpr hc
  have a2 : ∀ x, (hrN T len x == 44) = (chN T len x == 44) := fun x => hr_eq (by decide) (by decide)
  have a3 : ∀ x, (hrN T len x == 59) = (chN T len x == 59) := fun x => hr_eq (by decide) (by decide)
  show (((((true && ((hrN T len p == c) && decide (0 < dgT T len 3 (p + 1)))) && ((hrN T len (nmP T len p) == 44) && decide (0 < dgT T len 3 (nmP T len p + 1)))) && ((hrN T len (nmP T len (nmP T len p)) == 44) && decide (0 < dgT T len 3 (nmP T len (nmP T len p) + 1)))) && ((hrN T len (nmP T len (nmP T len (nmP T len p))) == 44) && decide (0 < dgT T len 3 (nmP T len (nmP T len (nmP T len p)) + 1)))) && (hrN T len (nmP T len (nmP T len (nmP T len (nmP T len p)))) == 59)) = ((decide (0 < dgT T len 3 (p + 1)) && (chN T len (nmP T len p) == 44)) && ((decide (0 < dgT T len 3 (nmP T len p + 1)) && (chN T len (nmP T len (nmP T len p)) == 44)) && ((decide (0 < dgT T len 3 (nmP T len (nmP T len p) + 1)) && (chN T len (nmP T len (nmP T len (nmP T len p))) == 44)) && ((decide (0 < dgT T len 3 (nmP T len (nmP T len (nmP T len p)) + 1)) && (chN T len (nmP T len (nmP T len (nmP T len (nmP T len p)))) == 59)) && true))))
  rw [a1, a2, a2, a2, a3]
  simp only [Bool.true_and, Bool.and_true, Bool.and_assoc]
theorem Xm.command {N : Nat} {σ : zS} {M len p : Nat} {f6 f7 ok re ca : Int32} {T : Nat → Int32} (hN : 7000 < N) (h : Xm σ M f6 f7 len p ok re ca T) (hT : Chs T len) (hp : p < len) : (okN T len p → m_X9_command N σ M = mdOf N (T p) (vaN T len 0 (p + 1)) (vaN T len 1 (p + 1)) (vaN T len 2 (p + 1)) (vaN T len 3 (p + 1)) (zup σ M (xE M f6 f7 len (psN T len (wN (T p)) (p + 1)) 1 re ca)) M) ∧ (¬ okN T len p → ∃ p', m_X9_command N σ M = some (0, zup σ M (xE M f6 f7 len p' 0 re ca))) := by
  have hl := hT.1
  have ec : hrN T len p = T p := if_pos hp
  have h0 : m_X9_here N σ M = some (T p) := by rw [h.here hl (by omega), ec]
  have st : ∀ o : Bool, sI σ 9 12 M (Ob o) = some (zup σ M (xE M f6 f7 len p (Ob o) re ca)) := fun o => by
    rw [sI_at h.1 (Nat.le_of_ble_eq_true rfl)]
    rfl
  have nn : ∀ (p : Nat) (o : Bool) (v : Int32), p < 900 → m_X9_number N (zup σ M (xE M f6 f7 len p (Ob o) re ca)) M v = some (nmV T len p, zup σ M (xE M f6 f7 len (nmP T len p) (Ob (o && nmO T len p v)) re ca)) := fun p o v hp => by
    rw [(h.set p (Ob o) re ca).number (by omega) hl hp, zup_zup]
  have mm : ∀ (p : Nat) (o : Bool) (v : Int32), p < 2 ^ 31 → m_X9_must N (zup σ M (xE M f6 f7 len p (Ob o) re ca)) M v = some (zup σ M (xE M f6 f7 len (p + 1) (Ob (o && (hrN T len p == v))) re ca)) := fun p o v hp => by
    rw [(h.set p (Ob o) re ca).must hl hp, zup_zup]
  have io : ∀ (p : Nat) (o : Bool), isO (zup σ M (xE M f6 f7 len p (Ob o) re ca)) 9 M = some () := fun p o => (h.set p (Ob o) re ca).mb.o.1
  have gk : ∀ (p : Nat) (o : Bool), gI (zup σ M (xE M f6 f7 len p (Ob o) re ca)) 9 12 M = some (Ob o) := fun p o => gI_at (h.set p (Ob o) re ca).1 rfl
  have l1 := nmP_le T len p
  have l2 := nmP_le T len (nmP T len p)
  have l3 := nmP_le T len (nmP T len (nmP T len p))
  have l4 := nmP_le T len (nmP T len (nmP T len (nmP T len p)))
  have n1 : ∀ (o : Bool) (v : Int32), _ := fun o v => nn p o v (by omega)
  have n2 : ∀ (o : Bool) (v : Int32), _ := fun o v => nn (nmP T len p) o v (by omega)
  have n3 : ∀ (o : Bool) (v : Int32), _ := fun o v => nn (nmP T len (nmP T len p)) o v (by omega)
  have n4 : ∀ (o : Bool) (v : Int32), _ := fun o v => nn (nmP T len (nmP T len (nmP T len p))) o v (by omega)
  have O1 : (some (1 : Int32)) = some (Ob true) := rfl
  have O0 : (some (0 : Int32)) = some (Ob false) := rfl
  unfold okN
  by_cases cc : T p = 97
  · rw [cc] at h0 ec ⊢
    have B := two_eq ec
    have W : wN 97 = 2 := by decide
    have run : m_X9_command N σ M = (if Ob (prs T len 2 (p + 1)) = 0 then some (0, zup σ M (xE M f6 f7 len (nmP T len (nmP T len p) + 1) (Ob (prs T len 2 (p + 1))) re ca)) else mdOf N 97 (vaN T len 0 (p + 1)) (vaN T len 1 (p + 1)) (vaN T len 2 (p + 1)) (vaN T len 3 (p + 1)) (zup σ M (xE M f6 f7 len (nmP T len (nmP T len p) + 1) (Ob (prs T len 2 (p + 1))) re ca)) M) := by
      unfold m_X9_command
      rw [h.mb.o.1, Option.bind_some, h0, Option.bind_some, if_neg (show ¬ (97 : Int32) = 107 by decide), if_pos (show (97 : Int32) = 97 from rfl), Option.bind_some, show ckZ 1 = some (Ob true) from rfl, Option.bind_some, st, Option.bind_some, io, Option.bind_some, n1, b2_some, if_neg (show ¬ (97 : Int32) = 122 by decide), io, Option.bind_some, n2, b2_some, b2_some, if_neg (show ¬ (97 : Int32) = 115 by decide), b2_some, if_neg (show ¬ (97 : Int32) = 115 by decide), b2_some, io, Option.bind_some, mm _ _ _ (by omega), Option.bind_some, gk, Option.bind_some, B]
      refine ite_congr rfl (fun _ => rfl) (fun _ => ?_)
      unfold mdOf
      rw [if_pos (show (97 : Int32) = 97 from rfl), if_pos (show (97 : Int32) = 97 from rfl), io, Option.bind_some, b2_eta]
      rfl
    rw [W]
    by_cases cp : prs T len 2 (p + 1) = true
    · refine ⟨fun _ => ?_, fun q => absurd ⟨by decide, cp⟩ q⟩
      rw [run, cp, if_neg (by decide)]
      rfl
    · refine ⟨fun q => absurd q.2 cp, fun _ => ⟨nmP T len (nmP T len p) + 1, ?_⟩⟩
      rw [run, Bool.eq_false_iff.mpr cp, if_pos (show Ob false = 0 from rfl)]
      rfl
  · have z97 : ¬ T p = 97 := cc
    clear cc
    by_cases cc : T p = 107
    · rw [cc] at h0 ec ⊢
      have B := two_eq ec
      have W : wN 107 = 2 := by decide
      have run : m_X9_command N σ M = (if Ob (prs T len 2 (p + 1)) = 0 then some (0, zup σ M (xE M f6 f7 len (nmP T len (nmP T len p) + 1) (Ob (prs T len 2 (p + 1))) re ca)) else mdOf N 107 (vaN T len 0 (p + 1)) (vaN T len 1 (p + 1)) (vaN T len 2 (p + 1)) (vaN T len 3 (p + 1)) (zup σ M (xE M f6 f7 len (nmP T len (nmP T len p) + 1) (Ob (prs T len 2 (p + 1))) re ca)) M) := by
        unfold m_X9_command
        rw [h.mb.o.1, Option.bind_some, h0, Option.bind_some, if_pos (show (107 : Int32) = 107 from rfl), Option.bind_some, show ckZ 1 = some (Ob true) from rfl, Option.bind_some, st, Option.bind_some, io, Option.bind_some, n1, b2_some, if_neg (show ¬ (107 : Int32) = 122 by decide), io, Option.bind_some, n2, b2_some, b2_some, if_neg (show ¬ (107 : Int32) = 115 by decide), b2_some, if_neg (show ¬ (107 : Int32) = 115 by decide), b2_some, io, Option.bind_some, mm _ _ _ (by omega), Option.bind_some, gk, Option.bind_some, B]
        refine ite_congr rfl (fun _ => rfl) (fun _ => ?_)
        unfold mdOf
        rw [if_neg (show ¬ (107 : Int32) = 97 by decide), if_pos (show (107 : Int32) = 107 from rfl), if_neg (show ¬ (107 : Int32) = 97 by decide), if_pos (show (107 : Int32) = 107 from rfl), io, Option.bind_some, b2_eta]
        rfl
      rw [W]
      by_cases cp : prs T len 2 (p + 1) = true
      · refine ⟨fun _ => ?_, fun q => absurd ⟨by decide, cp⟩ q⟩
        rw [run, cp, if_neg (by decide)]
        rfl
      · refine ⟨fun q => absurd q.2 cp, fun _ => ⟨nmP T len (nmP T len p) + 1, ?_⟩⟩
        rw [run, Bool.eq_false_iff.mpr cp, if_pos (show Ob false = 0 from rfl)]
        rfl
    · have z107 : ¬ T p = 107 := cc
      clear cc
      by_cases cc : T p = 109
      · rw [cc] at h0 ec ⊢
        have B := two_eq ec
        have W : wN 109 = 2 := by decide
        have run : m_X9_command N σ M = (if Ob (prs T len 2 (p + 1)) = 0 then some (0, zup σ M (xE M f6 f7 len (nmP T len (nmP T len p) + 1) (Ob (prs T len 2 (p + 1))) re ca)) else mdOf N 109 (vaN T len 0 (p + 1)) (vaN T len 1 (p + 1)) (vaN T len 2 (p + 1)) (vaN T len 3 (p + 1)) (zup σ M (xE M f6 f7 len (nmP T len (nmP T len p) + 1) (Ob (prs T len 2 (p + 1))) re ca)) M) := by
          unfold m_X9_command
          rw [h.mb.o.1, Option.bind_some, h0, Option.bind_some, if_neg (show ¬ (109 : Int32) = 107 by decide), if_neg (show ¬ (109 : Int32) = 97 by decide), if_neg (show ¬ (109 : Int32) = 115 by decide), if_pos (show (109 : Int32) = 109 from rfl), Option.bind_some, show ckZ 1 = some (Ob true) from rfl, Option.bind_some, st, Option.bind_some, io, Option.bind_some, n1, b2_some, if_neg (show ¬ (109 : Int32) = 122 by decide), io, Option.bind_some, n2, b2_some, b2_some, if_neg (show ¬ (109 : Int32) = 115 by decide), b2_some, if_neg (show ¬ (109 : Int32) = 115 by decide), b2_some, io, Option.bind_some, mm _ _ _ (by omega), Option.bind_some, gk, Option.bind_some, B]
          refine ite_congr rfl (fun _ => rfl) (fun _ => ?_)
          unfold mdOf
          rw [if_neg (show ¬ (109 : Int32) = 97 by decide), if_neg (show ¬ (109 : Int32) = 107 by decide), if_pos (show (109 : Int32) = 109 from rfl), if_neg (show ¬ (109 : Int32) = 97 by decide), if_neg (show ¬ (109 : Int32) = 107 by decide), if_pos (show (109 : Int32) = 109 from rfl), io, Option.bind_some, b2_eta]
          rfl
        rw [W]
        by_cases cp : prs T len 2 (p + 1) = true
        · refine ⟨fun _ => ?_, fun q => absurd ⟨by decide, cp⟩ q⟩
          rw [run, cp, if_neg (by decide)]
          rfl
        · refine ⟨fun q => absurd q.2 cp, fun _ => ⟨nmP T len (nmP T len p) + 1, ?_⟩⟩
          rw [run, Bool.eq_false_iff.mpr cp, if_pos (show Ob false = 0 from rfl)]
          rfl
      · have z109 : ¬ T p = 109 := cc
        clear cc
        by_cases cc : T p = 115
        · rw [cc] at h0 ec ⊢
          have B := four_eq ec
          have W : wN 115 = 4 := by decide
          have run : m_X9_command N σ M = (if Ob (prs T len 4 (p + 1)) = 0 then some (0, zup σ M (xE M f6 f7 len (nmP T len (nmP T len (nmP T len (nmP T len p))) + 1) (Ob (prs T len 4 (p + 1))) re ca)) else mdOf N 115 (vaN T len 0 (p + 1)) (vaN T len 1 (p + 1)) (vaN T len 2 (p + 1)) (vaN T len 3 (p + 1)) (zup σ M (xE M f6 f7 len (nmP T len (nmP T len (nmP T len (nmP T len p))) + 1) (Ob (prs T len 4 (p + 1))) re ca)) M) := by
            unfold m_X9_command
            rw [h.mb.o.1, Option.bind_some, h0, Option.bind_some, if_neg (show ¬ (115 : Int32) = 107 by decide), if_neg (show ¬ (115 : Int32) = 97 by decide), if_pos (show (115 : Int32) = 115 from rfl), Option.bind_some, show ckZ 1 = some (Ob true) from rfl, Option.bind_some, st, Option.bind_some, io, Option.bind_some, n1, b2_some, if_neg (show ¬ (115 : Int32) = 122 by decide), io, Option.bind_some, n2, b2_some, b2_some, if_pos (show (115 : Int32) = 115 from rfl), io, Option.bind_some, n3, b2_some, b2_some, if_pos (show (115 : Int32) = 115 from rfl), io, Option.bind_some, n4, b2_some, b2_some, io, Option.bind_some, mm _ _ _ (by omega), Option.bind_some, gk, Option.bind_some, B]
            refine ite_congr rfl (fun _ => rfl) (fun _ => ?_)
            unfold mdOf
            rw [if_neg (show ¬ (115 : Int32) = 97 by decide), if_neg (show ¬ (115 : Int32) = 107 by decide), if_neg (show ¬ (115 : Int32) = 109 by decide), if_pos (show (115 : Int32) = 115 from rfl), if_neg (show ¬ (115 : Int32) = 97 by decide), if_neg (show ¬ (115 : Int32) = 107 by decide), if_neg (show ¬ (115 : Int32) = 109 by decide), if_pos (show (115 : Int32) = 115 from rfl), io, Option.bind_some, b2_eta]
            rfl
          rw [W]
          by_cases cp : prs T len 4 (p + 1) = true
          · refine ⟨fun _ => ?_, fun q => absurd ⟨by decide, cp⟩ q⟩
            rw [run, cp, if_neg (by decide)]
            rfl
          · refine ⟨fun q => absurd q.2 cp, fun _ => ⟨nmP T len (nmP T len (nmP T len (nmP T len p))) + 1, ?_⟩⟩
            rw [run, Bool.eq_false_iff.mpr cp, if_pos (show Ob false = 0 from rfl)]
            rfl
        · have z115 : ¬ T p = 115 := cc
          clear cc
          by_cases cc : T p = 122
          · rw [cc] at h0 ec ⊢
            have B := one_eq ec
            have W : wN 122 = 1 := by decide
            have run : m_X9_command N σ M = (if Ob (prs T len 1 (p + 1)) = 0 then some (0, zup σ M (xE M f6 f7 len (nmP T len p + 1) (Ob (prs T len 1 (p + 1))) re ca)) else mdOf N 122 (vaN T len 0 (p + 1)) (vaN T len 1 (p + 1)) (vaN T len 2 (p + 1)) (vaN T len 3 (p + 1)) (zup σ M (xE M f6 f7 len (nmP T len p + 1) (Ob (prs T len 1 (p + 1))) re ca)) M) := by
              unfold m_X9_command
              rw [h.mb.o.1, Option.bind_some, h0, Option.bind_some, if_neg (show ¬ (122 : Int32) = 107 by decide), if_neg (show ¬ (122 : Int32) = 97 by decide), if_neg (show ¬ (122 : Int32) = 115 by decide), if_neg (show ¬ (122 : Int32) = 109 by decide), if_pos (show (122 : Int32) = 122 from rfl), Option.bind_some, show ckZ 1 = some (Ob true) from rfl, Option.bind_some, st, Option.bind_some, io, Option.bind_some, n1, b2_some, if_pos (show (122 : Int32) = 122 from rfl), b2_some, if_neg (show ¬ (122 : Int32) = 115 by decide), b2_some, if_neg (show ¬ (122 : Int32) = 115 by decide), b2_some, io, Option.bind_some, mm _ _ _ (by omega), Option.bind_some, gk, Option.bind_some, B]
              refine ite_congr rfl (fun _ => rfl) (fun _ => ?_)
              unfold mdOf
              rw [if_neg (show ¬ (122 : Int32) = 97 by decide), if_neg (show ¬ (122 : Int32) = 107 by decide), if_neg (show ¬ (122 : Int32) = 109 by decide), if_neg (show ¬ (122 : Int32) = 115 by decide), if_neg (show ¬ (122 : Int32) = 97 by decide), if_neg (show ¬ (122 : Int32) = 107 by decide), if_neg (show ¬ (122 : Int32) = 109 by decide), if_neg (show ¬ (122 : Int32) = 115 by decide), io, Option.bind_some, b2_eta]
              rfl
            rw [W]
            by_cases cp : prs T len 1 (p + 1) = true
            · refine ⟨fun _ => ?_, fun q => absurd ⟨by decide, cp⟩ q⟩
              rw [run, cp, if_neg (by decide)]
              rfl
            · refine ⟨fun q => absurd q.2 cp, fun _ => ⟨nmP T len p + 1, ?_⟩⟩
              rw [run, Bool.eq_false_iff.mpr cp, if_pos (show Ob false = 0 from rfl)]
              rfl
          · have z122 : ¬ T p = 122 := cc
            clear cc
            refine ⟨fun q => absurd ?_ q.1, fun _ => ⟨nmP T len (nmP T len p) + 1, ?_⟩⟩
            · unfold wN
              rw [if_neg z97, if_neg z107, if_neg z109, if_neg z115, if_neg z122]
            · unfold m_X9_command
              rw [h.mb.o.1, Option.bind_some, h0, Option.bind_some, if_neg z107, if_neg z97, if_neg z115, if_neg z109, if_neg z122, Option.bind_some, show ckZ 0 = some (Ob false) from rfl, Option.bind_some, st, Option.bind_some, io, Option.bind_some, n1, b2_some, if_neg z122, io, Option.bind_some, n2, b2_some, b2_some, if_neg z115, b2_some, if_neg z115, b2_some, io, Option.bind_some, mm _ _ _ (by omega), Option.bind_some, gk, Option.bind_some, Bool.false_and, Bool.false_and, Bool.false_and, if_pos (show Ob false = 0 from rfl)]
              rfl
