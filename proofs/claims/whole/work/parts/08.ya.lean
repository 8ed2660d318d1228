theorem ly_u1 : ∀ i, i < 6 → ¬ (6 - nI i) = 0 := by decide +kernel
theorem ly_u2 : ∀ i, i < 6 → nI (ly_un i) / (6 - nI i) = nI (ly_un (i + 1)) := by decide +kernel
theorem ly_u3 : ∀ i, i < 6 → ¬ nI (ly_un (i + 1)) = 0 := by decide +kernel
theorem ly_u4 : ∀ i, i < 6 → 0 < ly_un (i + 1) ∧ ly_un (i + 1) < 1000 ∧ 0 < ly_un i ∧ ly_un i < 1000 ∧ ly_un i % ly_un (i + 1) = 0 := by decide +kernel
section
variable {kn : Int32} {a lf rw nm ls cs fs : Nat → Int32} {q : Nat → Nat}
theorem ly_ycp {post : Int32 → Prop} {x : Int32} (h : post (ly_pc x)) : wpY_bits post (kn, a, lf, rw, nm, ls, cs, fs) x :=
  ⟨7, ly_st (fun n i c => wY_bits_4 post x kn a lf rw nm ls cs fs n c (nI i)) (ly_fd (fun i c => c + ly_bit x i) 0) 6
    (fun n => br_t (by decide) h)
    (fun n j hj w => br_f (ly_n6 j hj) (nm_e (nm_r (nI_1 j) w))) 6 0 rfl⟩
theorem ly_ycl {post : Int32 → Prop} (h : post (ly_cl a / 2)) : wpY_lines post (kn, a, lf, rw, nm, ls, cs, fs) :=
  ⟨7, ly_st (fun n i c => wY_lines_4 post kn a lf rw nm ls cs fs n c (nI i)) (ly_fd (fun i c => c + ly_pc (a i)) 0) 6
    (fun n => br_t (by decide) ⟨by decide, h⟩)
    (fun n j hj w => br_f (ly_n6 j hj) ⟨ly_i hj, ly_ycp (nm_r (by rw [ly_c hj]; rfl) (nm_r (nI_1 j) w))⟩) 6 0 rfl⟩
theorem ly_ynt {s : Int32} {post : Int32 → Prop} : ∀ (d : Nat) (r : Int32) (p : Nat), p + d = 6 → post (ly_nth s d r p) → wY_nth_5 post s kn a lf rw nm ls cs fs (d + 1) r (nI p) := by
  intro d
  induction d with
  | zero =>
    intro r p hp h
    cases (show p = 6 by omega)
    exact br_t (by decide) h
  | succ d ih =>
    intro r p hp h
    unfold ly_nth at h
    refine br_f (ly_n6 p (by omega)) ?_
    by_cases hb : ly_bit s p = 1
    · rw [if_pos hb] at h
      refine br_t hb ?_
      by_cases hr : r = 0
      · rw [if_pos hr] at h
        exact br_t hr h
      · rw [if_neg hr] at h
        exact br_f hr (nm_e (nm_r (nI_1 p) (ih _ _ (by omega) h)))
    · rw [if_neg hb] at h
      exact br_f hb (nm_r (nI_1 p) (ih _ _ (by omega) h))
theorem ly_yso {n : Nat} (hn : n < 720) (hrw : ly_T rw) {post : SY → Prop} (h : post (kn, a, lf, ly_ar (ly_q n), nm, ls, cs, fs)) : wpY_setOrder post (kn, a, lf, rw, nm, ls, cs, fs) (nI n) := by
  refine ⟨7, ?_⟩
  have key := ly_st (fun m i row => wY_setOrder_13 post kn m (nI (n % ly_un i)) (nI (ly_un i)) (ly_lt (ly_q n) i) (nI i) a lf row nm ls cs fs) (fun i => ly_mi i (ly_ar (ly_q n)) rw) 6 ?_ ?_ 6 0 rfl
  · rw [show n % ly_un 0 = n from Nat.mod_eq_of_lt hn] at key
    exact key
  · intro m
    refine br_t (by decide) ?_
    show post (kn, a, lf, ly_mi 6 (ly_ar (ly_q n)) rw, nm, ls, cs, fs)
    rw [ly_mi6 (ly_arT _) hrw]
    exact h
  · intro m i hi w
    have hu := ly_u4 i hi
    have hl : n % ly_un i < 2 ^ 31 := Nat.lt_of_lt_of_le (Nat.mod_lt _ hu.2.2.1) (by omega)
    have e1 : upd (ly_mi i (ly_ar (ly_q n)) rw) (nI i).toNatClampNeg (nI (ly_q n i)) = ly_mi (i + 1) (ly_ar (ly_q n)) rw := by
      rw [ly_c hi, ← ly_ar6 (ly_q n) hi]
      exact ly_miu i _ _
    have e2 : ly_mi (i + 1) (ly_ar (ly_q n)) rw (nI i).toNatClampNeg = nI (ly_q n i) := by
      rw [ly_c hi]
      exact (if_pos (by omega)).trans (ly_ar6 _ hi)
    have e3 : nI (n % ly_un i) - nI (n % ly_un i) / nI (ly_un (i + 1)) * nI (ly_un (i + 1)) = nI (n % ly_un (i + 1)) := by
      rw [pk_rem hl hu.1 (by omega), Nat.mod_mod_of_dvd n (Nat.dvd_of_mod_eq_zero hu.2.2.2.2)]
    refine br_f (ly_n6 i hi) ⟨ly_u1 i hi, nm_r (ly_u2 i hi) ⟨ly_u3 i hi, ⟨7, ly_ynt 6 _ 0 rfl ?_⟩⟩⟩
    rw [pk_div hl hu.1 (by omega), ly_qn n hn i hi]
    refine ⟨ly_i hi, nm_r e1 ⟨ly_u3 i hi, ?_⟩⟩
    rw [← pk_div hl hu.1 (by omega)]
    refine nm_r e3 ⟨ly_i hi, ?_⟩
    rw [e2]
    exact nm_r (e' := ly_lt (ly_q n) (i + 1)) rfl (nm_r (nI_1 i) w)
end
