/-- the least of the first n, how many have it, which is its first -/
def ly_L (v : Nat → Int32) : Nat → Int32
  | 0 => 1000
  | n + 1 => if ly_L v n ≤ v n then ly_L v n else v n
def ly_C (v : Nat → Int32) : Nat → Int32
  | 0 => 0
  | n + 1 => if ly_L v n ≤ v n then (if v n = ly_L v n then ly_C v n + 1 else ly_C v n) else 1
def ly_F (v : Nat → Int32) : Nat → Nat
  | 0 => 0
  | n + 1 => if ly_L v n ≤ v n then ly_F v n else n
theorem ly_F_lt (v : Nat → Int32) : ∀ n, n ≤ 720 → ly_F v n < 720 := by
  intro n
  induction n with
  | zero => intro _; exact (by decide : 0 < 720)
  | succ n ih =>
    intro h
    show (if ly_L v n ≤ v n then ly_F v n else n) < 720
    by_cases hc : ly_L v n ≤ v n
    · rw [if_pos hc]; exact ih (by omega)
    · rw [if_neg hc]; omega
def ly_v (m : Nat) (a : Nat → Int32) : Nat → Int32 := fun n => ly_M m a (ly_q n)
def ly_LL (m : Nat) (a : Nat → Int32) : Int32 := ly_L (ly_v m a) 720
def ly_CC (m : Nat) (a : Nat → Int32) : Int32 := ly_C (ly_v m a) 720
def ly_FF (m : Nat) (a : Nat → Int32) : Nat := ly_F (ly_v m a) 720
theorem ly_FFl (m : Nat) (a : Nat → Int32) : ly_FF m a < 720 := ly_F_lt _ 720 (Nat.le_refl _)
section
variable {a : Nat → Int32} {post : SX → Prop} {m : Nat} {N : Nat}
theorem ly_x18 (hN : N = 720) (hm : m < 6) (ha : ly_T a) (hb : ¬ (1000 : Int32) ≤ ly_v m a 0)
    (h : ∀ r f, ly_T r → ly_T f → f = ly_ar (ly_q (ly_F (ly_v m a) N)) → post (ly_L (ly_v m a) N, ly_C (ly_v m a) N, a, ly_ar (ly_q N), r, f)) :
    ∀ (d i : Nat) (r f : Nat → Int32), i + d = N → ly_T r → ly_T f → (0 < i → f = ly_ar (ly_q (ly_F (ly_v m a) i))) →
      wX_survey_18 post (nI m) (d + 1) (nI i) (ly_L (ly_v m a) i) (ly_C (ly_v m a) i) a (ly_ar (ly_q i)) r f := by
  intro d
  induction d with
  | zero =>
    intro i r f hi hr hf hF
    cases (show i = N by omega)
    exact br_t (nI_le (a := 720) (by omega) (by omega)) (h r f hr hf (hF (by omega)))
  | succ d ih =>
    intro i r f hi hr hf hF
    refine br_f (ly_n720 (by omega)) (ly_xme (ly_qa i (by omega)) ha hr hm (fun r' hr' => ?_))
    show (ly_L (ly_v m a) i ≤ ly_v m a i → _) ∧ (¬ ly_L (ly_v m a) i ≤ ly_v m a i → _)
    have eL : ly_L (ly_v m a) (i + 1) = if ly_L (ly_v m a) i ≤ ly_v m a i then ly_L (ly_v m a) i else ly_v m a i := rfl
    have eC : ly_C (ly_v m a) (i + 1) = if ly_L (ly_v m a) i ≤ ly_v m a i then (if ly_v m a i = ly_L (ly_v m a) i then ly_C (ly_v m a) i + 1 else ly_C (ly_v m a) i) else 1 := rfl
    have eF : ly_F (ly_v m a) (i + 1) = if ly_L (ly_v m a) i ≤ ly_v m a i then ly_F (ly_v m a) i else i := rfl
    by_cases hc : ly_L (ly_v m a) i ≤ ly_v m a i
    · rw [if_pos hc] at eL eC eF
      have h0 : 0 < i := by
        rcases Nat.eq_zero_or_pos i with h0 | h0
        · subst h0
          exact absurd hc hb
        · exact h0
      have hI : ∀ c, c = ly_C (ly_v m a) (i + 1) → wX_survey_71 post (wX_survey_18 post (nI m) (d + 1)) (nI m) (nI i) (ly_L (ly_v m a) i) c a (ly_ar (ly_q i)) r' f := by
        intro c ec
        refine ly_xno (by omega) (nm_r (nI_1 i) ?_)
        rw [ec, ← eL]
        exact ih (i + 1) r' f (by omega) hr' hf (fun _ => by rw [eF]; exact hF h0)
      refine br_t hc ?_
      by_cases he : ly_v m a i = ly_L (ly_v m a) i
      · rw [if_pos he] at eC
        exact br_t he (nm_e (hI _ eC.symm))
      · rw [if_neg he] at eC
        exact br_f he (hI _ eC.symm)
    · rw [if_neg hc] at eL eC eF
      refine br_f hc (ly_xko (ly_arT _) hf ?_)
      refine br_t rfl (nm_r (e' := 1) (by decide) (ly_xno (by omega) (nm_r (nI_1 i) ?_)))
      show wX_survey_18 post (nI m) (d + 1) (nI (i + 1)) (ly_v m a i) 1 a (ly_ar (ly_q (i + 1))) r' (ly_ar (ly_q i))
      rw [← eL, ← eC]
      exact ih (i + 1) r' _ (by omega) hr' (ly_arT _) (fun _ => by rw [eF])
theorem ly_xsv (hm : m < 6) {fl flo : Int32} {o r f : Nat → Int32} (ha : ly_T a) (ho : ly_T o) (hr : ly_T r) (hf : ly_T f) (hb : ¬ (1000 : Int32) ≤ ly_v m a 0)
    (h : ∀ r f, ly_T r → ly_T f → f = ly_ar (ly_q (ly_FF m a)) → post (ly_LL m a, ly_CC m a, a, ly_ar (ly_q 720), r, f)) : wpX_survey post (fl, flo, a, o, r, f) (nI m) :=
  ly_xso ho ⟨721, ly_x18 (N := 720) rfl hm ha hb h 720 0 r f rfl hr hf (fun z => absurd z (by decide))⟩
end
