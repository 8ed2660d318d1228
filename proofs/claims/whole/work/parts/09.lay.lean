def ly_tn (x0 x1 x2 x3 x4 x5 : Int32) (g : Nat → Int32) : Nat → Int32 := fun j => if j = 0 then x0 else if j = 1 then x1 else if j = 2 then x2 else if j = 3 then x3 else if j = 4 then x4 else if j = 5 then x5 else g j
theorem ly_tu0 (x0 x1 x2 x3 x4 x5 z : Int32) (g : Nat → Int32) : upd (ly_tn x0 x1 x2 x3 x4 x5 g) 0 z = ly_tn z x1 x2 x3 x4 x5 g := by
  funext j
  unfold upd ly_tn
  by_cases h : j = 0
  · subst h; rfl
  · simp only [if_neg h]
theorem ly_tv0 (x0 x1 x2 x3 x4 x5 : Int32) (g : Nat → Int32) : ly_tn x0 x1 x2 x3 x4 x5 g 0 = x0 := rfl
theorem ly_tu1 (x0 x1 x2 x3 x4 x5 z : Int32) (g : Nat → Int32) : upd (ly_tn x0 x1 x2 x3 x4 x5 g) 1 z = ly_tn x0 z x2 x3 x4 x5 g := by
  funext j
  unfold upd ly_tn
  by_cases h : j = 1
  · subst h; rfl
  · simp only [if_neg h]
theorem ly_tv1 (x0 x1 x2 x3 x4 x5 : Int32) (g : Nat → Int32) : ly_tn x0 x1 x2 x3 x4 x5 g 1 = x1 := rfl
theorem ly_tu2 (x0 x1 x2 x3 x4 x5 z : Int32) (g : Nat → Int32) : upd (ly_tn x0 x1 x2 x3 x4 x5 g) 2 z = ly_tn x0 x1 z x3 x4 x5 g := by
  funext j
  unfold upd ly_tn
  by_cases h : j = 2
  · subst h; rfl
  · simp only [if_neg h]
theorem ly_tv2 (x0 x1 x2 x3 x4 x5 : Int32) (g : Nat → Int32) : ly_tn x0 x1 x2 x3 x4 x5 g 2 = x2 := rfl
theorem ly_tu3 (x0 x1 x2 x3 x4 x5 z : Int32) (g : Nat → Int32) : upd (ly_tn x0 x1 x2 x3 x4 x5 g) 3 z = ly_tn x0 x1 x2 z x4 x5 g := by
  funext j
  unfold upd ly_tn
  by_cases h : j = 3
  · subst h; rfl
  · simp only [if_neg h]
theorem ly_tv3 (x0 x1 x2 x3 x4 x5 : Int32) (g : Nat → Int32) : ly_tn x0 x1 x2 x3 x4 x5 g 3 = x3 := rfl
theorem ly_tu4 (x0 x1 x2 x3 x4 x5 z : Int32) (g : Nat → Int32) : upd (ly_tn x0 x1 x2 x3 x4 x5 g) 4 z = ly_tn x0 x1 x2 x3 z x5 g := by
  funext j
  unfold upd ly_tn
  by_cases h : j = 4
  · subst h; rfl
  · simp only [if_neg h]
theorem ly_tv4 (x0 x1 x2 x3 x4 x5 : Int32) (g : Nat → Int32) : ly_tn x0 x1 x2 x3 x4 x5 g 4 = x4 := rfl
theorem ly_tu5 (x0 x1 x2 x3 x4 x5 z : Int32) (g : Nat → Int32) : upd (ly_tn x0 x1 x2 x3 x4 x5 g) 5 z = ly_tn x0 x1 x2 x3 x4 z g := by
  funext j
  unfold upd ly_tn
  by_cases h : j = 5
  · subst h; rfl
  · simp only [if_neg h]
theorem ly_tv5 (x0 x1 x2 x3 x4 x5 : Int32) (g : Nat → Int32) : ly_tn x0 x1 x2 x3 x4 x5 g 5 = x5 := rfl
theorem ly_t0 (g : Nat → Int32) : ly_mi 4 (fun _ => 0) g = ly_tn 0 0 0 0 (g 4) (g 5) g := by
  funext j
  unfold ly_mi ly_tn
  by_cases h4 : j < 4
  · rw [if_pos h4]
    rcases (show j = 0 ∨ j = 1 ∨ j = 2 ∨ j = 3 by omega) with rfl | rfl | rfl | rfl <;> rfl
  · rw [if_neg h4, if_neg (by omega), if_neg (by omega), if_neg (by omega), if_neg (by omega)]
    by_cases h : j = 4
    · rw [if_pos h, h]
    · rw [if_neg h]
      by_cases h5 : j = 5
      · rw [if_pos h5, h5]
      · rw [if_neg h5]
theorem ly_v6 : ∀ k, k < 6 → vp_in (nI k) 6 := fun k hk => ly_i hk
section
variable {kn : Int32} {a lf nm ls cs fs g : Nat → Int32} {q : Nat → Nat}
/-- what lies in the first i places -/
def ly_ea (q : Nat → Nat) : Nat → Int32
  | 0 => 0
  | i + 1 => ly_ea q i ||| ((1 : Int32) <<< (nI (q i) &&& 31))
def ly_lk (a : Nat → Int32) (q : Nat → Nat) (i k : Nat) : Int32 := ly_pc (a (q k) &&& (ly_ea q (i + 1) ^^^ (-1)))
def ly_c1 (a : Nat → Int32) (q : Nat → Nat) (i : Nat) : Nat → Int32 := ly_fd (fun k c => c + ly_lk a q i k) 0
def ly_c2 (a : Nat → Int32) (q : Nat → Nat) (i : Nat) : Nat → Int32 := ly_fd (fun k c => if ly_lk a q i k ≤ 0 then c else c + 1) 0
def ly_y2 (a : Nat → Int32) (q : Nat → Nat) (i : Nat) : Nat → Int32 → Int32 := fun k g => if ly_bit (a (q k)) (q i) = 1 then (if nI i - nI k ≤ g then g else nI i - nI k) else g
def ly_y3 (a : Nat → Int32) (q : Nat → Nat) (i : Nat) : Nat → Int32 → Int32 := fun k s => if ly_bit (a (q k)) (q i) = 1 then s + nI i - nI k else s
def ly_N0 (a : Nat → Int32) (q : Nat → Nat) : Nat → Int32 := ly_fd (fun i g => ly_mx g (ly_c1 a q i (i + 1))) 0
def ly_N1 (a : Nat → Int32) (q : Nat → Nat) : Nat → Int32 := ly_fd (fun i g => ly_mx g (ly_c2 a q i (i + 1))) 0
def ly_N2 (a : Nat → Int32) (q : Nat → Nat) : Nat → Int32 := ly_fd (fun i g => ly_fd (ly_y2 a q i) g (i + 1)) 0
def ly_N3 (a : Nat → Int32) (q : Nat → Nat) : Nat → Int32 := ly_fd (fun i g => ly_fd (ly_y3 a q i) g (i + 1)) 0
section
variable {post : SY → Prop} {J24 : Int32 → Int32 → (Nat → Int32) → (Nat → Int32) → (Nat → Int32) → (Nat → Int32) → (Nat → Int32) → (Nat → Int32) → (Nat → Int32) → Prop} {J49 : Int32 → Int32 → Int32 → (Nat → Int32) → (Nat → Int32) → (Nat → Int32) → (Nat → Int32) → (Nat → Int32) → (Nat → Int32) → (Nat → Int32) → Prop} {x1 x3 x4 n0 n1 n2 n3 n4 n5 z : Int32} {i k : Nat}
theorem ly_y16a (hJ : J49 x3 x4 (nI (k + 1)) a lf (ly_ar q) (ly_tn n0 n1 z n3 n4 n5 g) ls cs fs) : wY_lay_166 post J24 J49 x1 (nI i) x3 x4 (nI k) 0 z 2 kn a lf (ly_ar q) (ly_tn n0 n1 n2 n3 n4 n5 g) ls cs fs :=
  ⟨ly_i (j := 2) (by decide), nm_r (e' := (ly_tn n0 n1 z n3 n4 n5 g)) (ly_tu2 _ _ _ _ _ _ _ _) (br_t rfl (nm_r (e' := (ly_tn n0 n1 z n3 n4 n5 g)) (ly_tu3 _ _ _ _ _ _ _ _) (nm_r (nI_1 k) hJ)))⟩
theorem ly_y16b (hJ : J49 x3 x4 (nI (k + 1)) a lf (ly_ar q) (ly_tn n0 n1 z (n3 + nI i - nI k) n4 n5 g) ls cs fs) : wY_lay_166 post J24 J49 x1 (nI i) x3 x4 (nI k) 1 z 2 kn a lf (ly_ar q) (ly_tn n0 n1 n2 n3 n4 n5 g) ls cs fs :=
  ⟨ly_i (j := 2) (by decide), nm_r (e' := (ly_tn n0 n1 z n3 n4 n5 g)) (ly_tu2 _ _ _ _ _ _ _ _) (br_f (by decide) (nm_r (e' := (ly_tn n0 n1 z (n3 + nI i - nI k) n4 n5 g)) (ly_tu3 _ _ _ _ _ _ _ _) (nm_r (nI_1 k) hJ)))⟩
theorem ly_y96 (hq : ∀ i, i < 6 → q i < 6) (hi : i < 6) (hk : k < 6) (hJ : J49 x3 x4 (nI (k + 1)) a lf (ly_ar q) (ly_tn n0 n1 (ly_y2 a q i k n2) (ly_y3 a q i k n3) n4 n5 g) ls cs fs) : wY_lay_96 post J24 J49 x1 (nI i) x3 (nI k) x4 kn a lf (ly_ar q) (ly_tn n0 n1 n2 n3 n4 n5 g) ls cs fs := by
  refine ⟨ly_i hk, ly_iq hq hk, ly_i hi, ?_⟩
  rw [ly_aq (a := a) (j := k) hq hk, ly_arv q hi]
  unfold ly_y2 ly_y3 at hJ
  by_cases hb : ly_bit (a (q k)) (q i) = 1
  · rw [if_pos hb, if_pos hb] at hJ
    refine br_t hb (br_f (by decide) ?_)
    by_cases h2 : nI i - nI k ≤ n2
    · rw [if_pos h2] at hJ
      exact br_t h2 (ly_y16b hJ)
    · rw [if_neg h2] at hJ
      exact br_f h2 (ly_y16b hJ)
  · rw [if_neg hb, if_neg hb] at hJ
    exact br_f hb (br_t rfl (ly_y16a hJ))
theorem ly_y229 (hJ : J24 x1 (nI (i + 1)) a lf (ly_ar q) (ly_tn z (ly_mx n1 x4) n2 n3 n4 n5 g) ls cs fs) : wY_lay_229 post J24 x1 (nI i) x4 z 0 kn a lf (ly_ar q) (ly_tn n0 n1 n2 n3 n4 n5 g) ls cs fs := by
  refine ⟨ly_i (j := 0) (by decide), nm_r (e' := (ly_tn z n1 n2 n3 n4 n5 g)) (ly_tu0 _ _ _ _ _ _ _ _) ?_⟩
  unfold ly_mx at hJ
  by_cases h : x4 ≤ n1
  · rw [if_pos h] at hJ
    exact br_t h (nm_r (e' := (ly_tn z n1 n2 n3 n4 n5 g)) (ly_tu1 _ _ _ _ _ _ _ _) (nm_r (nI_1 i) hJ))
  · rw [if_neg h] at hJ
    exact br_f h (nm_r (e' := (ly_tn z x4 n2 n3 n4 n5 g)) (ly_tu1 _ _ _ _ _ _ _ _) (nm_r (nI_1 i) hJ))
end
theorem ly_yla (hq : ∀ i, i < 6 → q i < 6) {post : SY → Prop} (h : post (kn, a, lf, ly_ar q, ly_tn (ly_N0 a q 6) (ly_N1 a q 6) (ly_N2 a q 6) (ly_N3 a q 6) (nm 4) (nm 5) nm, ls, cs, fs)) : wpY_lay post (kn, a, lf, ly_ar q, nm, ls, cs, fs) := by
  refine ⟨5, ly_st (fun n i nn => wY_lay_2 post kn n (nI i) a lf (ly_ar q) nn ls cs fs) (fun i => ly_mi i (fun _ => 0) nm) 4 ?_ ?_ 4 0 rfl⟩
  rotate_left
  · intro n j hj w
    exact br_f (ly_n4 j hj) ⟨ly_i (by omega), nm_r (by rw [ly_c (show j < 6 by omega)]; exact ly_miu j (fun _ => 0) nm) (nm_r (nI_1 j) w)⟩
  intro n
  refine br_t (by decide) ⟨7, ?_⟩
  show wY_lay_24 post kn 7 0 0 a lf (ly_ar q) (ly_mi 4 (fun _ => 0) nm) ls cs fs
  rw [ly_t0]
  refine ly_st2 (fun n i e nn => wY_lay_24 post kn n e (nI i) a lf (ly_ar q) nn ls cs fs) (ly_ea q) (fun i => ly_tn (ly_N0 a q i) (ly_N1 a q i) (ly_N2 a q i) (ly_N3 a q i) (nm 4) (nm 5) nm) 6 (fun n => br_t (by decide) h) ?_ 6 0 rfl
  clear h
  intro n i hi w
  refine br_f (ly_n6 i hi) ⟨ly_i hi, nm_r (e' := ly_ea q (i + 1)) (by rw [ly_arv q hi]; rfl) ⟨i + 2, ?_⟩⟩
  have w' : wY_lay_24 post kn n (ly_ea q (i + 1)) (nI (i + 1)) a lf (ly_ar q) (ly_tn (ly_mx (ly_N0 a q i) (ly_c1 a q i (i + 1))) (ly_mx (ly_N1 a q i) (ly_c2 a q i (i + 1))) (ly_fd (ly_y2 a q i) (ly_N2 a q i) (i + 1)) (ly_fd (ly_y3 a q i) (ly_N3 a q i) (i + 1)) (nm 4) (nm 5) nm) ls cs fs := w
  clear w
  revert w'
  generalize ly_N0 a q i = n0
  generalize ly_N1 a q i = n1
  generalize ly_N2 a q i = n2
  generalize ly_N3 a q i = n3
  intro w
  refine ly_st3 (fun m k c d nn => wY_lay_49 post (wY_lay_24 post kn n) (ly_ea q (i + 1)) (nI i) kn m c d (nI k) a lf (ly_ar q) nn ls cs fs) (ly_c1 a q i) (ly_c2 a q i) (fun k => ly_tn n0 n1 (ly_fd (ly_y2 a q i) n2 k) (ly_fd (ly_y3 a q i) n3 k) (nm 4) (nm 5) nm) (i + 1) ?_ ?_ (i + 1) 0 (by omega)
  · intro m
    refine br_t (nI_lt (by omega) (by omega)) ?_
    exact ly_br (P := fun z => wY_lay_24 post kn n (ly_ea q (i + 1)) (nI (i + 1)) a lf (ly_ar q) (ly_tn z (ly_mx n1 (ly_c2 a q i (i + 1))) (ly_fd (ly_y2 a q i) n2 (i + 1)) (ly_fd (ly_y3 a q i) n3 (i + 1)) (nm 4) (nm 5) nm) ls cs fs) (fun z => ly_y229 z) (fun z => ly_y229 z) w
  · intro m k hk w2
    refine br_f (nI_nlt (by omega) (by omega)) ⟨ly_i (by omega), ly_iq hq (by omega), ly_ycp ?_⟩
    rw [ly_aq (a := a) (j := k) hq (by omega)]
    refine nm_r (e' := ly_c1 a q i (k + 1)) rfl ?_
    exact ly_br (c := ly_lk a q i k ≤ 0) (P := fun z => wY_lay_49 post (wY_lay_24 post kn n) (ly_ea q (i + 1)) (nI i) kn m (ly_c1 a q i (k + 1)) z (nI (k + 1)) a lf (ly_ar q) (ly_tn n0 n1 (ly_fd (ly_y2 a q i) n2 (k + 1)) (ly_fd (ly_y3 a q i) n3 (k + 1)) (nm 4) (nm 5) nm) ls cs fs) (x := ly_c2 a q i k) (y := ly_c2 a q i k + 1) (fun z => ly_y96 hq hi (by omega) z) (fun z => ly_y96 hq hi (by omega) z) w2
end
