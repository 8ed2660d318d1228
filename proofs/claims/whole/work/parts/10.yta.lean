def ly_jm (s : Int32) (l : Nat → Int32) (p : Nat) : Int32 := (s &&& (l p ^^^ (-1))) &&& ly_mk p
def ly_jl (s : Int32) (l : Nat → Int32) : Nat → Int32 := fun p => if ly_bit s p = 1 then l p ||| ly_jm s l p else l p
def ly_je (s : Int32) (l : Nat → Int32) : Nat → Int32 := ly_fd (fun p c => if ly_bit s p = 1 then c + ly_pc (ly_jm s l p) else c) 0
def ly_Y1 (b : Nat) (l : Nat → Int32) : Nat → Int32 := ly_mi 6 (ly_jl (l b) l) l
def ly_Y (b : Nat) (l : Nat → Int32) : Nat → Int32 := ly_mi 6 (fun p => ly_Y1 b l p &&& ly_mk b) (ly_Y1 b l)
def ly_Z (a : Nat → Int32) (q : Nat → Nat) : Nat → Nat → Int32
  | 0 => a
  | i + 1 => ly_Y (q i) (ly_Z a q i)
def ly_N4 (a : Nat → Int32) (q : Nat → Nat) : Nat → Int32 := ly_fd (fun i g => ly_mx g (ly_pc (ly_Z a q i (q i)))) 0
def ly_N5 (a : Nat → Int32) (q : Nat → Nat) : Nat → Int32 := ly_fd (fun i g => g + ly_je (ly_Z a q i (q i)) (ly_Z a q i) 6 / 2) 0
theorem ly_jes {s : Int32} {l : Nat → Int32} {j : Nat} (h : ly_bit s j = 1) : ly_je s l (j + 1) = ly_je s l j + ly_pc (ly_jm s l j) := if_pos h
theorem ly_jen {s : Int32} {l : Nat → Int32} {j : Nat} (h : ¬ ly_bit s j = 1) : ly_je s l (j + 1) = ly_je s l j := if_neg h
theorem ly_miT {f g : Nat → Int32} (h : ly_T g) : ly_T (ly_mi 6 f g) := fun j hj => (if_neg (by omega)).trans (h j hj)
theorem ly_ts (g : Nat → Int32) : g = ly_tn (g 0) (g 1) (g 2) (g 3) (g 4) (g 5) g := by
  funext j
  unfold ly_tn
  by_cases h0 : j = 0
  · rw [if_pos h0, h0]
  rw [if_neg h0]
  by_cases h0 : j = 1
  · rw [if_pos h0, h0]
  rw [if_neg h0]
  by_cases h0 : j = 2
  · rw [if_pos h0, h0]
  rw [if_neg h0]
  by_cases h0 : j = 3
  · rw [if_pos h0, h0]
  rw [if_neg h0]
  by_cases h0 : j = 4
  · rw [if_pos h0, h0]
  rw [if_neg h0]
  by_cases h0 : j = 5
  · rw [if_pos h0, h0]
  rw [if_neg h0]
section
variable {kn : Int32} {a lf rw nm ls cs fs g : Nat → Int32} {q : Nat → Nat}
theorem ly_yjn {post : Int32 → SY → Prop} {s : Int32} {l : Nat → Int32} (h : post (ly_je s l 6 / 2) (kn, a, ly_mi 6 (ly_jl s l) l, rw, nm, ls, cs, fs)) : wpY_joinNeighbours post (kn, a, l, rw, nm, ls, cs, fs) s := by
  refine ⟨7, ly_st2 (fun n i c ll => wY_joinNeighbours_4 post s kn n c (nI i) a ll rw nm ls cs fs) (ly_je s l) (fun i => ly_mi i (ly_jl s l) l) 6 ?_ ?_ 6 0 rfl⟩
  · intro n
    exact br_t (by decide) ⟨by decide, h⟩
  · intro n j hj w
    refine br_f (ly_n6 j hj) ?_
    by_cases hbit : ly_bit s j = 1
    · refine br_t hbit ⟨ly_i hj, nm_r (e' := ly_jm s l j) (by rw [ly_c hj, ly_mij]; rfl) (ly_ycp (nm_r (e' := ly_je s l (j + 1)) (ly_jes hbit).symm ⟨ly_i hj, ly_i hj, nm_r (e' := ly_mi (j + 1) (ly_jl s l) l) ?_ (nm_r (nI_1 j) w)⟩))⟩
      rw [ly_c hj, ly_mij, ← ly_miu, show ly_jl s l j = l j ||| ly_jm s l j from if_pos hbit]
    · have e1 := ly_jen (l := l) hbit
      have e2 : ly_mi (j + 1) (ly_jl s l) l = ly_mi j (ly_jl s l) l := ly_mis (if_neg hbit)
      refine br_f hbit (nm_r (nI_1 j) ?_)
      have w' : wY_joinNeighbours_4 post s kn n (ly_je s l (j + 1)) (nI (j + 1)) a (ly_mi (j + 1) (ly_jl s l) l) rw nm ls cs fs := w
      rw [e1, e2] at w'
      exact w'
theorem ly_y113 {post : SY → Prop} {J42 : Int32 → Int32 → (Nat → Int32) → (Nat → Int32) → (Nat → Int32) → (Nat → Int32) → (Nat → Int32) → (Nat → Int32) → (Nat → Int32) → Prop} {l : Nat → Int32} {i : Nat} (hi : i < 6) (h : J42 (nI (i + 1)) kn a (ly_mi 6 (fun p => l p &&& ly_mk (q i)) l) (ly_ar q) nm ls cs fs) : ∃ n, wY_takeApart_113 post J42 (nI i) kn n 0 a l (ly_ar q) nm ls cs fs := by
  refine ⟨7, ly_st (fun n p ll => wY_takeApart_113 post J42 (nI i) kn n (nI p) a ll (ly_ar q) nm ls cs fs) (fun p => ly_mi p (fun p => l p &&& ly_mk (q i)) l) 6 ?_ ?_ 6 0 rfl⟩
  · intro n
    exact br_t (by decide) (nm_r (nI_1 i) h)
  · intro n j hj w
    refine br_f (ly_n6 j hj) ⟨ly_i hj, ly_i hi, ly_i hj, nm_r (e' := ly_mi (j + 1) (fun p => l p &&& ly_mk (q i)) l) ?_ (nm_r (nI_1 j) w)⟩
    rw [ly_c hj, ly_mij, ly_arv q hi]
    exact ly_miu j (fun p => l p &&& ly_mk (q i)) l
theorem ly_y91 {post : SY → Prop} {J42 : Int32 → Int32 → (Nat → Int32) → (Nat → Int32) → (Nat → Int32) → (Nat → Int32) → (Nat → Int32) → (Nat → Int32) → (Nat → Int32) → Prop} {l : Nat → Int32} {i : Nat} {n0 n1 n2 n3 n4 n5 z : Int32} (hi : i < 6) (h : J42 (nI (i + 1)) kn a (ly_Y (q i) l) (ly_ar q) (ly_tn n0 n1 n2 n3 z (n5 + ly_je (l (q i)) l 6 / 2) g) ls cs fs) : wY_takeApart_91 post J42 (nI i) (l (q i)) z 4 kn a l (ly_ar q) (ly_tn n0 n1 n2 n3 n4 n5 g) ls cs fs :=
  ⟨ly_i (j := 4) (by decide), nm_r (e' := ly_tn n0 n1 n2 n3 z n5 g) (ly_tu4 _ _ _ _ _ _ _ _) (ly_yjn (nm_r (e' := ly_tn n0 n1 n2 n3 z (n5 + ly_je (l (q i)) l 6 / 2) g) (ly_tu5 _ _ _ _ _ _ _ _) (ly_y113 hi h)))⟩
theorem ly_ZT (hq : ∀ i, i < 6 → q i < 6) (ha : ly_T a) : ∀ i, i ≤ 6 → ly_T (ly_Z a q i) := by
  intro i
  induction i with
  | zero => intro _; exact ha
  | succ i ih => intro h; exact ly_miT (ly_miT (ih (by omega)))
theorem ly_yta (hq : ∀ i, i < 6 → q i < 6) (ha : ly_T a) (hl : ly_T lf) {post : SY → Prop} (h : ∀ lf', ly_T lf' → post (kn, a, lf', ly_ar q, ly_tn (nm 0) (nm 1) (nm 2) (nm 3) (ly_N4 a q 6) (ly_N5 a q 6) nm, ls, cs, fs)) : wpY_takeApart post (kn, a, lf, ly_ar q, nm, ls, cs, fs) := by
  have h' := h _ (ly_ZT hq ha 6 (Nat.le_refl 6))
  clear h
  refine ⟨7, ly_st (fun n i ll => wY_takeApart_2 post kn n (nI i) a ll (ly_ar q) nm ls cs fs) (fun i => ly_mi i a lf) 6 ?_ ?_ 6 0 rfl⟩
  rotate_left
  · intro n j hj w
    exact br_f (ly_n6 j hj) ⟨ly_i hj, ly_i hj, nm_r (by rw [ly_c hj]; exact ly_miu j a lf) (nm_r (nI_1 j) w)⟩
  intro n
  have e4 : upd (upd nm 4 0) 5 0 = ly_tn (nm 0) (nm 1) (nm 2) (nm 3) 0 0 nm := by
    have e : upd (upd (ly_tn (nm 0) (nm 1) (nm 2) (nm 3) (nm 4) (nm 5) nm) 4 0) 5 0 = ly_tn (nm 0) (nm 1) (nm 2) (nm 3) 0 0 nm := by rw [ly_tu4, ly_tu5]
    rw [← ly_ts nm] at e
    exact e
  refine br_t (by decide) (nm_e (nm_r e4 ⟨7, ?_⟩))
  show wY_takeApart_42 post 7 0 kn a (ly_mi 6 a lf) (ly_ar q) (ly_tn (nm 0) (nm 1) (nm 2) (nm 3) 0 0 nm) ls cs fs
  rw [ly_mi6 ha hl]
  refine ly_st3 (fun n i c d ll => wY_takeApart_42 post n (nI i) kn a ll (ly_ar q) (ly_tn (nm 0) (nm 1) (nm 2) (nm 3) c d nm) ls cs fs) (ly_N4 a q) (ly_N5 a q) (ly_Z a q) 6 (fun n => br_t (by decide) h') ?_ 6 0 rfl
  clear h' e4
  intro n i hi w
  refine br_f (ly_n6 i hi) ⟨ly_i hi, ly_iq hq hi, nm_r (e' := ly_Z a q i (q i)) (ly_aq (a := ly_Z a q i) (j := i) hq hi) (ly_ycp ?_)⟩
  exact ly_br (P := fun z => wY_takeApart_42 post n (nI (i + 1)) kn a (ly_Z a q (i + 1)) (ly_ar q) (ly_tn (nm 0) (nm 1) (nm 2) (nm 3) z (ly_N5 a q (i + 1)) nm) ls cs fs) (x := ly_N4 a q i) (y := ly_pc (ly_Z a q i (q i))) (fun z => ly_y91 hi z) (fun z => ly_y91 hi z) w
end
