theorem ly_xcp {post : Int32 → Prop} {x : Int32} (h : post (ly_pc x)) : wpX_countPoints post x :=
  ⟨7, ly_st (fun n i c => wX_countPoints_4 post x n c (nI i)) (ly_fd (fun i c => c + ly_bit x i) 0) 6
    (fun n => br_t (by decide) h)
    (fun n j hj w => br_f (ly_n6 j hj) (nm_e (nm_r (nI_1 j) w))) 6 0 rfl⟩
def ly_cl (a : Nat → Int32) : Int32 := ly_fd (fun i c => c + ly_pc (a i)) 0 6
section
variable {fl flo : Int32} {a r f : Nat → Int32} {q : Nat → Nat}
theorem ly_xcl {o : Nat → Int32} {post : Int32 → Prop} (h : post (ly_cl a / 2)) : wpX_countLines post (fl, flo, a, o, r, f) :=
  ⟨7, ly_st (fun n i c => wX_countLines_4 post fl flo a o r f n c (nI i)) (ly_fd (fun i c => c + ly_pc (a i)) 0) 6
    (fun n => br_t (by decide) ⟨by decide, h⟩)
    (fun n j hj w => br_f (ly_n6 j hj) ⟨ly_i hj, ly_xcp (nm_r (by rw [ly_c hj]; rfl) (nm_r (nI_1 j) w))⟩) 6 0 rfl⟩
theorem ly_xij {o : Nat → Int32} {post : Int32 → Prop} {p t : Nat} (hp : p < 6) (h1 : ly_bit (a p) t = 1 → post 1) (h0 : ¬ ly_bit (a p) t = 1 → post 0) : wpX_isJoined post (fl, flo, a, o, r, f) (nI p) (nI t) := by
  refine ⟨ly_i hp, ?_⟩
  rw [ly_c hp]
  exact ⟨h1, h0⟩
/-- what lies behind the first i places -/
def ly_lt (q : Nat → Nat) : Nat → Int32
  | 0 => 63
  | i + 1 => ly_lt q i &&& ly_mk (q i)
def ly_mx (g x : Int32) : Int32 := if x ≤ g then g else x
def ly_cut (a : Nat → Int32) (q : Nat → Nat) (i : Nat) : Int32 := ly_fd (fun j c => c + ly_pc (a (q j) &&& ly_lt q (i + 1))) 0 (i + 1)
def ly_M0 (a : Nat → Int32) (q : Nat → Nat) : Int32 := ly_fd (fun i g => ly_mx g (ly_cut a q i)) 0 5
def ly_sep (a : Nat → Int32) (q : Nat → Nat) (i : Nat) : Int32 := ly_fd (fun j c => if a (q j) &&& ly_lt q (i + 1) = 0 then c else c + 1) 0 (i + 1)
def ly_M1 (a : Nat → Int32) (q : Nat → Nat) : Int32 := ly_fd (fun i g => ly_mx g (ly_sep a q i)) 0 6
theorem ly_aq (hq : ∀ i, i < 6 → q i < 6) {j : Nat} (hj : j < 6) : a (ly_ar q (nI j).toNatClampNeg).toNatClampNeg = a (q j) := by rw [ly_arv q hj, ly_c (hq j hj)]
theorem ly_iq (hq : ∀ i, i < 6 → q i < 6) {j : Nat} (hj : j < 6) : vp_in (ly_ar q (nI j).toNatClampNeg) 6 := by rw [ly_arv q hj]; exact ly_i (hq j hj)
theorem ly_x0 (hq : ∀ i, i < 6 → q i < 6) {post : Int32 → Prop} (h : post (ly_M0 a q)) : wpX_orderCutWidth post (fl, flo, a, ly_ar q, r, f) := by
  have h' : post (ly_fd (fun i g => ly_mx g (ly_cut a q i)) 0 5) := h
  clear h
  refine ⟨6, ly_st2 (fun n i s t => wX_orderCutWidth_7 post fl flo a (ly_ar q) r f n s t (nI i)) (ly_fd (fun i g => ly_mx g (ly_cut a q i)) 0) (ly_lt q) 5 (fun n => br_t (by decide) h') ?_ 5 0 rfl⟩
  intro n i hi w
  refine br_f (ly_n5 i hi) ⟨ly_i (by omega), nm_r (e' := ly_lt q (i + 1)) ?_ ⟨i + 2, ?_⟩⟩
  · rw [ly_arv q (by omega)]; rfl
  · refine ly_st (fun m j c => wX_orderCutWidth_31 post (wX_orderCutWidth_7 post fl flo a (ly_ar q) r f n) (ly_fd (fun i g => ly_mx g (ly_cut a q i)) 0 i) (ly_lt q (i + 1)) (nI i) fl flo a (ly_ar q) r f m c (nI j)) (ly_fd (fun j c => c + ly_pc (a (q j) &&& ly_lt q (i + 1))) 0) (i + 1) ?_ ?_ (i + 1) 0 (by omega)
    · intro m
      refine br_t (nI_lt (by omega) (by omega)) ?_
      exact ly_br (P := fun z => wX_orderCutWidth_7 post fl flo a (ly_ar q) r f n z (ly_lt q (i + 1)) (nI (i + 1))) (fun z => nm_r (nI_1 i) z) (fun z => nm_r (nI_1 i) z) w
    · intro m j hj w2
      refine br_f (nI_nlt (by omega) (by omega)) ⟨ly_i (by omega), ly_iq hq (by omega), ly_xcp ?_⟩
      exact nm_r (by rw [ly_aq (a := a) (j := j) hq (by omega)]; rfl) (nm_r (nI_1 j) w2)
theorem ly_x1 (hq : ∀ i, i < 6 → q i < 6) {post : Int32 → Prop} (h : post (ly_M1 a q)) : wpX_orderSeparation post (fl, flo, a, ly_ar q, r, f) := by
  have h' : post (ly_fd (fun i g => ly_mx g (ly_sep a q i)) 0 6) := h
  clear h
  refine ⟨7, ly_st2 (fun n i s t => wX_orderSeparation_7 post fl flo a (ly_ar q) r f n s t (nI i)) (ly_fd (fun i g => ly_mx g (ly_sep a q i)) 0) (ly_lt q) 6 (fun n => br_t (by decide) h') ?_ 6 0 rfl⟩
  intro n i hi w
  refine br_f (ly_n6 i hi) ⟨ly_i (by omega), nm_r (e' := ly_lt q (i + 1)) ?_ ⟨i + 2, ?_⟩⟩
  · rw [ly_arv q (by omega)]; rfl
  · refine ly_st (fun m j c => wX_orderSeparation_32 post (wX_orderSeparation_7 post fl flo a (ly_ar q) r f n) (ly_fd (fun i g => ly_mx g (ly_sep a q i)) 0 i) (ly_lt q (i + 1)) (nI i) fl flo a (ly_ar q) r f m c (nI j)) (ly_fd (fun j c => if a (q j) &&& ly_lt q (i + 1) = 0 then c else c + 1) 0) (i + 1) ?_ ?_ (i + 1) 0 (by omega)
    · intro m
      refine br_t (nI_lt (by omega) (by omega)) ?_
      exact ly_br (P := fun z => wX_orderSeparation_7 post fl flo a (ly_ar q) r f n z (ly_lt q (i + 1)) (nI (i + 1))) (fun z => nm_r (nI_1 i) z) (fun z => nm_r (nI_1 i) z) w
    · intro m j hj w2
      refine br_f (nI_nlt (by omega) (by omega)) ⟨ly_i (by omega), ly_iq hq (by omega), ?_⟩
      rw [ly_aq (a := a) (j := j) hq (by omega)]
      exact ly_br (P := fun z => wX_orderSeparation_32 post (wX_orderSeparation_7 post fl flo a (ly_ar q) r f n) (ly_fd (fun i g => ly_mx g (ly_sep a q i)) 0 i) (ly_lt q (i + 1)) (nI i) fl flo a (ly_ar q) r f m z (nI (j + 1))) (fun z => nm_r (nI_1 j) z) (fun z => nm_e (nm_r (nI_1 j) z)) w2
def ly_s2 (a : Nat → Int32) (q : Nat → Nat) (i : Nat) : Nat → Int32 → Int32 := fun j g => if i < j then (if nI j - nI i ≤ g then g else if ly_bit (a (q i)) (q j) = 1 then nI j - nI i else g) else g
def ly_M2 (a : Nat → Int32) (q : Nat → Nat) : Int32 := ly_fd (fun i g => ly_fd (ly_s2 a q i) g 6) 0 6
def ly_s3 (a : Nat → Int32) (q : Nat → Nat) (i : Nat) : Nat → Int32 → Int32 := fun j s => if i < j then (if ly_bit (a (q i)) (q j) = 1 then s + (nI j - nI i) else s) else s
def ly_M3 (a : Nat → Int32) (q : Nat → Nat) : Int32 := ly_fd (fun i g => ly_fd (ly_s3 a q i) g 6) 0 6
theorem ly_x2 (hq : ∀ i, i < 6 → q i < 6) {post : Int32 → Prop} (h : post (ly_M2 a q)) : wpX_orderStretch post (fl, flo, a, ly_ar q, r, f) := by
  refine ⟨7, ly_st (fun n i s => wX_orderStretch_4 post fl flo a (ly_ar q) r f n s (nI i)) (fun i => ly_fd (fun i g => ly_fd (ly_s2 a q i) g 6) 0 i) 6 (fun n => br_t (by decide) h) ?_ 6 0 rfl⟩
  intro n i hi w
  refine br_f (ly_n6 i hi) (nm_r (nI_1 i) ⟨5 - i + 1, ?_⟩)
  have w' : wX_orderStretch_4 post fl flo a (ly_ar q) r f n (ly_fd (ly_s2 a q i) (ly_fd (fun i g => ly_fd (ly_s2 a q i) g 6) 0 i) 6) (nI (i + 1)) := w
  clear w
  revert w'
  generalize ly_fd (fun i g => ly_fd (ly_s2 a q i) g 6) 0 i = g
  intro w
  have e0 : ly_fd (ly_s2 a q i) g (i + 1) = g := ly_fd_id (fun j hj => if_neg (by omega))
  have key := ly_sj (fun m j c => wX_orderStretch_14 post (wX_orderStretch_4 post fl flo a (ly_ar q) r f n) (nI i) fl flo a (ly_ar q) r f m c (nI j)) (ly_fd (ly_s2 a q i) g) 6 (i + 1)
    (fun m => br_t (by decide) (nm_r (nI_1 i) w)) ?_ (5 - i) (i + 1) (Nat.le_refl _) (by omega)
  · rw [e0] at key
    exact key
  · intro m j h0 hj w2
    refine br_f (ly_n6 j hj) ?_
    have w3 : wX_orderStretch_14 post (wX_orderStretch_4 post fl flo a (ly_ar q) r f n) (nI i) fl flo a (ly_ar q) r f m (ly_s2 a q i j (ly_fd (ly_s2 a q i) g j)) (nI (j + 1)) := w2
    clear w2
    revert w3
    generalize ly_fd (ly_s2 a q i) g j = g'
    intro w3
    unfold ly_s2 at w3
    rw [if_pos (by omega)] at w3
    by_cases h1 : nI j - nI i ≤ g'
    · rw [if_pos h1] at w3
      exact br_t h1 (nm_r (nI_1 j) w3)
    · rw [if_neg h1] at w3
      refine br_f h1 ⟨ly_i hi, ly_i hj, ?_⟩
      rw [ly_arv q hi, ly_arv q hj]
      refine ly_xij (hq i hi) (fun h2 => ?_) (fun h2 => ?_)
      · rw [if_pos h2] at w3
        exact br_f (by decide) (nm_e (nm_r (nI_1 j) w3))
      · rw [if_neg h2] at w3
        exact br_t rfl (nm_r (nI_1 j) w3)
theorem ly_x3 (hq : ∀ i, i < 6 → q i < 6) {post : Int32 → Prop} (h : post (ly_M3 a q)) : wpX_orderLength post (fl, flo, a, ly_ar q, r, f) := by
  refine ⟨7, ly_st (fun n i s => wX_orderLength_4 post fl flo a (ly_ar q) r f n s (nI i)) (fun i => ly_fd (fun i g => ly_fd (ly_s3 a q i) g 6) 0 i) 6 (fun n => br_t (by decide) h) ?_ 6 0 rfl⟩
  intro n i hi w
  refine br_f (ly_n6 i hi) (nm_r (nI_1 i) ⟨5 - i + 1, ?_⟩)
  have w' : wX_orderLength_4 post fl flo a (ly_ar q) r f n (ly_fd (ly_s3 a q i) (ly_fd (fun i g => ly_fd (ly_s3 a q i) g 6) 0 i) 6) (nI (i + 1)) := w
  clear w
  revert w'
  generalize ly_fd (fun i g => ly_fd (ly_s3 a q i) g 6) 0 i = g
  intro w
  have e0 : ly_fd (ly_s3 a q i) g (i + 1) = g := ly_fd_id (fun j hj => if_neg (by omega))
  have key := ly_sj (fun m j c => wX_orderLength_14 post (wX_orderLength_4 post fl flo a (ly_ar q) r f n) (nI i) fl flo a (ly_ar q) r f m c (nI j)) (ly_fd (ly_s3 a q i) g) 6 (i + 1)
    (fun m => br_t (by decide) (nm_r (nI_1 i) w)) ?_ (5 - i) (i + 1) (Nat.le_refl _) (by omega)
  · rw [e0] at key
    exact key
  · intro m j h0 hj w2
    refine br_f (ly_n6 j hj) ⟨ly_i hi, ly_i hj, ?_⟩
    have w3 : wX_orderLength_14 post (wX_orderLength_4 post fl flo a (ly_ar q) r f n) (nI i) fl flo a (ly_ar q) r f m (ly_s3 a q i j (ly_fd (ly_s3 a q i) g j)) (nI (j + 1)) := w2
    clear w2
    revert w3
    generalize ly_fd (ly_s3 a q i) g j = g'
    intro w3
    unfold ly_s3 at w3
    rw [if_pos (by omega)] at w3
    rw [ly_arv q hi, ly_arv q hj]
    refine ly_xij (hq i hi) (fun h2 => ?_) (fun h2 => ?_)
    · rw [if_pos h2] at w3
      exact br_f (by decide) (nm_e (nm_r (nI_1 j) w3))
    · rw [if_neg h2] at w3
      exact br_t rfl (nm_r (nI_1 j) w3)
end
