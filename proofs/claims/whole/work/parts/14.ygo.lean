theorem ly_q6 : ∀ n, n < 720 → ly_lt (ly_q n) 6 = 0 := by decide +kernel
section
variable {a : Nat → Int32} {n : Nat}
theorem ly_n0 (hn : n < 720) (ha : ly_G a) : ly_N0 a (ly_q n) 6 = ly_v 0 a n := (ly_e0 (ly_qa n (by omega)) (ly_q6 n hn) ha.2.1).trans ly_Me0.symm
theorem ly_n1 (hn : n < 720) (ha : ly_G a) : ly_N1 a (ly_q n) 6 = ly_v 1 a n := (ly_e1 (ly_qa n (by omega)) ha.2.1).trans ly_Me1.symm
theorem ly_n2 : ly_N2 a (ly_q n) 6 = ly_v 2 a n := (ly_e2 a (ly_q n)).trans ly_Me2.symm
theorem ly_n3 : ly_N3 a (ly_q n) 6 = ly_v 3 a n := (ly_e3 a (ly_q n)).trans ly_Me3.symm
theorem ly_n4v (hn : n < 720) (ha : ly_G a) : ly_N4 a (ly_q n) 6 = ly_v 4 a n := (ly_e4 (ly_qa n (by omega)) (ly_qd n (by omega)) ha).trans ly_Me4.symm
theorem ly_n5v (hn : n < 720) (ha : ly_G a) : ly_N5 a (ly_q n) 6 = ly_v 5 a n := (ly_e5 (ly_qa n (by omega)) (ly_qd n (by omega)) ha).trans ly_Me5.symm
end
/-- what is kept of the last going over -/
def ly_Ca (a ls cs fs : Nat → Int32) : Prop := ∀ k, k < 6 → ls k = ly_LL k a ∧ cs k = ly_CC k a ∧ fs k = nI (ly_FF k a)
def ly_lN (nm ls : Nat → Int32) : Nat → Int32 := fun k => if ls k ≤ nm k then ls k else nm k
def ly_cN (nm ls cs : Nat → Int32) : Nat → Int32 := fun k => if ls k ≤ nm k then (if nm k = ls k then cs k + 1 else cs k) else 1
def ly_fN (nm ls fs : Nat → Int32) (x : Int32) : Nat → Int32 := fun k => if ls k ≤ nm k then fs k else x
section
variable {kn x : Int32} {a lf rw nm ls cs fs : Nat → Int32} {post : SY → Prop} {J38 : Int32 → Int32 → (Nat → Int32) → (Nat → Int32) → (Nat → Int32) → (Nat → Int32) → (Nat → Int32) → (Nat → Int32) → (Nat → Int32) → Prop} {J60 : Int32 → (Nat → Int32) → (Nat → Int32) → (Nat → Int32) → (Nat → Int32) → (Nat → Int32) → (Nat → Int32) → (Nat → Int32) → Prop}
theorem ly_y153 {k : Nat} (hk : k < 6) {z : Int32} (h : J60 (nI (k + 1)) a lf rw nm (upd ls k (ly_lN nm ls k)) cs (upd fs k z)) : wY_goOver_153 post J38 J60 x (nI k) z (nI k) kn a lf rw nm ls cs fs := by
  refine ⟨ly_i hk, nm_r (e' := upd fs k z) (by rw [ly_c hk]) ⟨ly_i hk, ly_i hk, ?_⟩⟩
  rw [ly_c hk]
  unfold ly_lN at h
  by_cases hc : ls k ≤ nm k
  · rw [if_pos hc] at h
    exact br_t hc ⟨ly_i hk, ly_i hk, nm_e (nm_r (nI_1 k) h)⟩
  · rw [if_neg hc] at h
    exact br_f hc ⟨ly_i hk, ly_i hk, nm_e (nm_r (nI_1 k) h)⟩
theorem ly_y122 {k : Nat} (hk : k < 6) {z : Int32} (h : J60 (nI (k + 1)) a lf rw nm (upd ls k (ly_lN nm ls k)) (upd cs k z) (upd fs k (ly_fN nm ls fs x k))) : wY_goOver_122 post J38 J60 x (nI k) z (nI k) kn a lf rw nm ls cs fs := by
  refine ⟨ly_i hk, nm_r (e' := upd cs k z) (by rw [ly_c hk]) ⟨ly_i hk, ly_i hk, ?_⟩⟩
  rw [ly_c hk]
  unfold ly_fN at h
  by_cases hc : ls k ≤ nm k
  · rw [if_pos hc] at h
    exact br_t hc ⟨ly_i hk, ly_y153 hk h⟩
  · rw [if_neg hc] at h
    exact br_f hc (ly_y153 hk h)
theorem ly_y60 {i : Nat} (h : J38 (nI (i + 1)) kn a lf rw nm (ly_mi 6 (ly_lN nm ls) ls) (ly_mi 6 (ly_cN nm ls cs) cs) (ly_mi 6 (ly_fN nm ls fs (nI i)) fs)) : ∃ n, wY_goOver_60 post J38 (nI i) kn n 0 a lf rw nm ls cs fs := by
  refine ⟨7, ly_st3 (fun n k l c f => wY_goOver_60 post J38 (nI i) kn n (nI k) a lf rw nm l c f) (fun k => ly_mi k (ly_lN nm ls) ls) (fun k => ly_mi k (ly_cN nm ls cs) cs) (fun k => ly_mi k (ly_fN nm ls fs (nI i)) fs) 6 ?_ ?_ 6 0 rfl⟩
  · intro n
    exact br_t (by decide) (nm_r (nI_1 i) h)
  · intro n k hk w
    have w' : wY_goOver_60 post J38 (nI i) kn n (nI (k + 1)) a lf rw nm (ly_mi (k + 1) (ly_lN nm ls) ls) (ly_mi (k + 1) (ly_cN nm ls cs) cs) (ly_mi (k + 1) (ly_fN nm ls fs (nI i)) fs) := w
    clear w
    rw [← ly_miu, ← ly_miu, ← ly_miu] at w'
    have el : ly_mi k (ly_lN nm ls) ls k = ls k := ly_mij k _ _
    have ec : ly_mi k (ly_cN nm ls cs) cs k = cs k := ly_mij k _ _
    have ef : ly_mi k (ly_fN nm ls fs (nI i)) fs k = fs k := ly_mij k _ _
    have e1 : ly_lN nm ls k = ly_lN nm (ly_mi k (ly_lN nm ls) ls) k := by unfold ly_lN; rw [ly_mij]
    have e3 : ly_fN nm ls fs (nI i) k = ly_fN nm (ly_mi k (ly_lN nm ls) ls) (ly_mi k (ly_fN nm ls fs (nI i)) fs) (nI i) k := by unfold ly_fN; rw [ly_mij, ly_mij]
    rw [e1, e3] at w'
    refine br_f (ly_n6 k hk) ⟨ly_i hk, ly_i hk, ?_⟩
    rw [ly_c hk, el, ec]
    unfold ly_cN at w'
    by_cases hc : ls k ≤ nm k
    · rw [if_pos hc] at w'
      refine br_t hc ⟨ly_i hk, ly_i hk, ?_⟩
      by_cases he : nm k = ls k
      · rw [if_pos he] at w'
        exact br_t he ⟨ly_i hk, ly_y122 hk w'⟩
      · rw [if_neg he] at w'
        exact br_f he ⟨ly_i hk, ly_y122 hk w'⟩
    · rw [if_neg hc] at w'
      exact br_f hc (ly_y122 hk w')
end
