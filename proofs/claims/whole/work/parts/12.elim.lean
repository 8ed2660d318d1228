/-- a graph: six rows, six bits, the same from both ends, no point joined to itself -/
def ly_G (a : Nat → Int32) : Prop := ly_T a ∧ (∀ p k, 6 ≤ k → bt (a p) k = false) ∧ (∀ p k, bt (a p) k = bt (a k) p) ∧ ∀ p, bt (a p) p = false
theorem ly_tkv {b : Nat} {r : Nat → Int32} (hb : b < 6) (hr : ly_G r) (p k : Nat) : bt (ly_tk b r p) k = ((!decide (p = b) && !decide (k = b)) && (bt (r p) k || ((bt (r b) p && bt (r b) k) && !decide (k = p)))) := by
  obtain ⟨hT, h6, hs, hi⟩ := hr
  by_cases hp : p = b
  · subst hp
    rw [show ly_tk p r p = 0 from pk_us, b_0, decide_eq_true rfl]
    rfl
  rw [show ly_tk b r p = ly_mi 6 (ly_tr b (r b) r) r p from pk_un hp, decide_eq_false hp]
  by_cases h6p : p < 6
  · rw [show ly_mi 6 (ly_tr b (r b) r) r p = ly_tr b (r b) r p from if_pos h6p]
    by_cases hk : k < 32
    · by_cases hbit : ly_bit (r b) p = 1
      · rw [show ly_tr b (r b) r p = (r p ||| (r b &&& ly_mk p)) &&& ly_mk b from if_pos hbit, b_and, b_or, b_and, ly_bm p (by omega) hk, ly_bm b (by omega) hk, (ly_bit1 (r b) (by omega)).mp hbit]
        cases bt (r p) k <;> cases bt (r b) k <;> cases decide (k = p) <;> cases decide (k = b) <;> rfl
      · have hf := (ly_bit0 (r b) (show p < 32 by omega)).mp hbit
        rw [show ly_tr b (r b) r p = r p from if_neg hbit, hf]
        by_cases hkb : k = b
        · subst hkb
          rw [hs p k, hf, decide_eq_true rfl]
          rfl
        · rw [decide_eq_false hkb]
          cases bt (r p) k <;> rfl
    · rw [b_big (by omega), b_big (x := r p) (by omega), b_big (x := r b) (i := k) (by omega)]
      cases bt (r b) p <;> cases decide (k = b) <;> cases decide (k = p) <;> rfl
  · rw [show ly_mi 6 (ly_tr b (r b) r) r p = r p from if_neg h6p, hT p (by omega), b_0, h6 b p (by omega)]
    cases decide (k = b) <;> rfl
theorem ly_tkG {b : Nat} {r : Nat → Int32} (hb : b < 6) (hr : ly_G r) : ly_G (ly_tk b r) := by
  have hv := ly_tkv hb hr
  obtain ⟨hT, h6, hs, hi⟩ := hr
  refine ⟨ly_tkT hb hT, fun p k hk => ?_, fun p k => ?_, fun p => ?_⟩
  · rw [hv, h6 p k hk, h6 b k hk]
    cases bt (r b) p <;> cases decide (p = b) <;> cases decide (k = b) <;> cases decide (k = p) <;> rfl
  · rw [hv, hv, hs p k]
    by_cases e : k = p
    · subst e; rfl
    · rw [decide_eq_false e, decide_eq_false (show ¬ p = k from fun z => e z.symm)]
      cases bt (r k) p <;> cases bt (r b) p <;> cases bt (r b) k <;> cases decide (p = b) <;> cases decide (k = b) <;> rfl
  · rw [hv, hi p, decide_eq_true rfl]
    cases bt (r b) p <;> cases decide (p = b) <;> rfl
section
variable {a : Nat → Int32} {q : Nat → Nat}
def ly_In (a : Nat → Int32) (q : Nat → Nat) (i : Nat) : Prop := ly_G (ly_R a q i) ∧ (∀ p j, j < i → q j = p → ly_R a q i p = 0) ∧ ∀ p, p < 6 → (∀ j, j < i → ¬ q j = p) → ly_Z a q i p = ly_R a q i p
theorem ly_In0 (ha : ly_G a) : ly_In a q 0 := ⟨ha, fun _ _ h => absurd h (Nat.not_lt_zero _), fun _ _ _ => rfl⟩
theorem ly_InS (hq : ∀ i, i < 6 → q i < 6) (hd : ∀ i, i < 6 → ∀ j, j < i → ¬ q i = q j) {i : Nat} (hi : i < 6) (h : ly_In a q i) : ly_In a q (i + 1) := by
  obtain ⟨hG, h0, he⟩ := h
  have hb := hq i hi
  have hv := ly_tkv hb hG
  have hzb : ly_Z a q i (q i) = ly_R a q i (q i) := he (q i) hb (fun j hj e => hd i hi j hj e.symm)
  refine ⟨ly_tkG hb hG, fun p j hj e => ?_, fun p hp hn => ?_⟩
  · show ly_tk (q i) (ly_R a q i) p = 0
    by_cases hp : p = q i
    · rw [hp]; exact pk_us
    · have hz : ly_R a q i p = 0 := h0 p j (by
        rcases Nat.lt_or_ge j i with h | h
        · exact h
        · exact absurd (by rw [← e, show j = i by omega]) hp) e
      apply b_ext
      intro k hk
      rw [hv, hG.2.2.1 (q i) p, hz, b_0, b_0]
      cases decide (p = q i) <;> cases decide (k = q i) <;> rfl
  · have hpb : ¬ p = q i := fun z => hn i (by omega) z.symm
    have hzp : ly_Z a q i p = ly_R a q i p := he p hp (fun j hj => hn j (by omega))
    show ly_Y (q i) (ly_Z a q i) p = ly_tk (q i) (ly_R a q i) p
    have e1 : ly_Y (q i) (ly_Z a q i) p = ly_jl (ly_Z a q i (q i)) (ly_Z a q i) p &&& ly_mk (q i) := by
      refine (if_pos hp).trans ?_
      show ly_Y1 (q i) (ly_Z a q i) p &&& ly_mk (q i) = _
      rw [show ly_Y1 (q i) (ly_Z a q i) p = ly_jl (ly_Z a q i (q i)) (ly_Z a q i) p from if_pos hp]
    rw [e1]
    apply b_ext
    intro k hk
    rw [hv, b_and, ly_bm _ (by omega) hk, decide_eq_false hpb]
    unfold ly_jl ly_jm
    rw [hzb, hzp]
    by_cases hbit : ly_bit (ly_R a q i (q i)) p = 1
    · rw [if_pos hbit, b_or, b_and, b_and, ly_bn _ hk, ly_bm _ (by omega) hk, (ly_bit1 _ (by omega)).mp hbit]
      cases bt (ly_R a q i p) k <;> cases bt (ly_R a q i (q i)) k <;> cases decide (k = p) <;> cases decide (k = q i) <;> rfl
    · rw [if_neg hbit, (ly_bit0 _ (by omega)).mp hbit]
      cases bt (ly_R a q i p) k <;> cases decide (k = q i) <;> rfl
theorem ly_Ini (hq : ∀ i, i < 6 → q i < 6) (hd : ∀ i, i < 6 → ∀ j, j < i → ¬ q i = q j) (ha : ly_G a) : ∀ i, i ≤ 6 → ly_In a q i := by
  intro i
  induction i with
  | zero => intro _; exact ly_In0 ha
  | succ i ih => intro h; exact ly_InS hq hd (by omega) (ih (by omega))
theorem ly_zb (hq : ∀ i, i < 6 → q i < 6) (hd : ∀ i, i < 6 → ∀ j, j < i → ¬ q i = q j) (ha : ly_G a) {i : Nat} (hi : i < 6) : ly_Z a q i (q i) = ly_R a q i (q i) :=
  (ly_Ini hq hd ha i (by omega)).2.2 (q i) (hq i hi) (fun j hj e => hd i hi j hj e.symm)
theorem ly_jq (hq : ∀ i, i < 6 → q i < 6) (hd : ∀ i, i < 6 → ∀ j, j < i → ¬ q i = q j) (ha : ly_G a) {i : Nat} (hi : i < 6) : ly_je (ly_Z a q i (q i)) (ly_Z a q i) 6 = ly_ne (ly_R a q i (q i)) (ly_R a q i) 6 := by
  rw [ly_zb hq hd ha hi]
  obtain ⟨hG, h0, he⟩ := ly_Ini hq hd ha i (by omega)
  refine ly_fd_eq (fun p t hp => ?_)
  by_cases hbit : ly_bit (ly_R a q i (q i)) p = 1
  · rw [if_pos hbit, if_pos hbit]
    have hzp : ly_Z a q i p = ly_R a q i p := by
      refine he p hp (fun j hj e => ?_)
      have h1 := (ly_bit1 (ly_R a q i (q i)) (show p < 32 by omega)).mp hbit
      rw [hG.2.2.1 (q i) p, h0 p j hj e, b_0] at h1
      exact absurd h1 (by decide)
    unfold ly_jm
    rw [hzp, Int32.and_assoc, Int32.and_assoc, Int32.and_comm (ly_R a q i p ^^^ (-1))]
  · rw [if_neg hbit, if_neg hbit]
theorem ly_e4 (hq : ∀ i, i < 6 → q i < 6) (hd : ∀ i, i < 6 → ∀ j, j < i → ¬ q i = q j) (ha : ly_G a) : ly_N4 a q 6 = ly_M4 a q := by
  refine ly_fd_eq (fun i t hi => ?_)
  rw [ly_zb hq hd ha hi]
theorem ly_e5 (hq : ∀ i, i < 6 → q i < 6) (hd : ∀ i, i < 6 → ∀ j, j < i → ¬ q i = q j) (ha : ly_G a) : ly_N5 a q 6 = ly_M5 a q := by
  refine ly_fd_eq (fun i t hi => ?_)
  rw [ly_jq hq hd ha hi]
  rfl
end
