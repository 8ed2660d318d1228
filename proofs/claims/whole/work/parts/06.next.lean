def ly_sw (o : Nat → Int32) (i j : Nat) : Nat → Int32 := upd (upd o i (o j)) j (o i)
def ly_rv : Nat → (Nat → Int32) → Nat → Nat → Nat → Int32
  | 0, o, _, _ => o
  | d + 1, o, i, j => if j ≤ i then o else ly_rv d (ly_sw o i j) (i + 1) (j - 1)
def ly_rf (q : Nat → Nat) : Nat → Int32 → Int32 := fun i r => if nI (q (i + 1)) ≤ nI (q i) then r else nI i
def ly_gf (q : Nat → Nat) (r : Nat) : Nat → Int32 → Int32 := fun j g => if r < j then (if nI (q j) ≤ nI (q r) then g else nI j) else g
def ly_rN (q : Nat → Nat) : Nat := ly_fd (fun i r => if q (i + 1) ≤ q i then r else i) 5 5
def ly_gN (q : Nat → Nat) (r : Nat) : Nat := ly_fd (fun j g => if r < j then (if q j ≤ q r then g else j) else g) (r + 1) 6
def ly_nx (q : Nat → Nat) : Nat → Int32 := ly_rv 3 (ly_sw (ly_ar q) (ly_rN q) (ly_gN q (ly_rN q))) (ly_rN q + 1) 5
theorem ly_k1 : ∀ n, n < 719 → ly_rN (ly_q n) < 5 ∧ ly_gN (ly_q n) (ly_rN (ly_q n)) < 6 := by decide +kernel
theorem ly_k2 : ∀ n, n < 719 → ly_fd (ly_rf (ly_q n)) (-1) 5 = nI (ly_rN (ly_q n)) := by decide +kernel
theorem ly_k3 : ∀ n, n < 719 → ly_fd (ly_gf (ly_q n) (ly_rN (ly_q n))) (nI (ly_rN (ly_q n) + 1)) 6 = nI (ly_gN (ly_q n) (ly_rN (ly_q n))) := by decide +kernel
theorem ly_k4 : ∀ n, n < 719 → ∀ j, j < 6 → ly_nx (ly_q n) j = ly_ar (ly_q (n + 1)) j := by decide +kernel
theorem ly_k5 : ly_fd (ly_rf (ly_q 719)) (-1) 5 = -1 := by decide +kernel
theorem ly_k6 : ∀ j, j < 6 → ly_ar (ly_q 720) j = ly_ar (ly_q 719) j := by decide +kernel
theorem ly_k7 : ∀ j, j < 6 → ly_q 0 j = j := by decide +kernel
section
variable {fl flo : Int32} {a r f : Nat → Int32} {q : Nat → Nat} {post : SX → Prop}
theorem ly_xsw {o : Nat → Int32} {i j : Nat} (hi : i < 6) (hj : j < 6) {post : SX → Prop} (h : post (fl, flo, a, ly_sw o i j, r, f)) : wpX_swapPlaces post (fl, flo, a, o, r, f) (nI i) (nI j) :=
  ⟨ly_i hi, nm_r (e' := o i) (by rw [ly_c hi]) ⟨ly_i hj, ly_i hi, nm_r (e' := upd o i (o j)) (by rw [ly_c hi, ly_c hj]) ⟨ly_i hj, nm_r (e' := ly_sw o i j) (by rw [ly_c hj]; rfl) h⟩⟩⟩
theorem ly_xrv : ∀ (d : Nat) (o : Nat → Int32) (i j : Nat), i ≤ 6 → j < 6 → j ≤ i + 2 * d → post (fl, flo, a, ly_rv d o i j, r, f) → wX_nextOrder_89 post (d + 1) (nI i) (nI j) fl flo a o r f := by
  intro d
  induction d with
  | zero => intro o i j hi hj hd h; exact br_t (nI_le (by omega) (by omega)) h
  | succ d ih =>
    intro o i j hi hj hd h
    unfold ly_rv at h
    by_cases hji : j ≤ i
    · rw [if_pos hji] at h
      exact br_t (nI_le hji (by omega)) h
    · rw [if_neg hji] at h
      exact br_f (nI_ge (by omega) (by omega)) (ly_xsw (by omega) hj (nm_r (nI_1 i) (nm_r (sb_m1 (by omega)) (ih (ly_sw o i j) (i + 1) (j - 1) (by omega) (by omega) (by omega) h))))
theorem ly_x47 {r0 g0 : Nat} (hr : r0 < 5) (hg : g0 < 6) (e2 : ly_fd (ly_gf q r0) (nI (r0 + 1)) 6 = nI g0) (h : post (fl, flo, a, ly_rv 3 (ly_sw (ly_ar q) r0 g0) (r0 + 1) 5, r, f)) : wX_nextOrder_47 post (nI r0) fl flo a (ly_ar q) r f (5 - r0 + 1) (nI (r0 + 1)) (nI (r0 + 1)) := by
  have e0 : ly_fd (ly_gf q r0) (nI (r0 + 1)) (r0 + 1) = nI (r0 + 1) := ly_fd_id (fun j hj => if_neg (by omega))
  have key := ly_sj (fun n j g => wX_nextOrder_47 post (nI r0) fl flo a (ly_ar q) r f n g (nI j)) (ly_fd (ly_gf q r0) (nI (r0 + 1))) 6 (r0 + 1) ?_ ?_ (5 - r0) (r0 + 1) (Nat.le_refl _) (by omega)
  · rw [e0] at key
    exact key
  · intro n
    refine br_t (by decide) ?_
    rw [e2]
    exact ly_xsw (by omega) hg (nm_r (nI_1 r0) ⟨4, ly_xrv 3 _ (r0 + 1) 5 (by omega) (by omega) (by omega) h⟩)
  · intro n j h0 hj w
    refine br_f (ly_n6 j hj) ⟨ly_i hj, ly_i (by omega), ?_⟩
    rw [ly_arv q hj, ly_arv q (show r0 < 6 by omega)]
    have w' : wX_nextOrder_47 post (nI r0) fl flo a (ly_ar q) r f n (ly_gf q r0 j (ly_fd (ly_gf q r0) (nI (r0 + 1)) j)) (nI (j + 1)) := w
    clear w
    revert w'
    generalize ly_fd (ly_gf q r0) (nI (r0 + 1)) j = g
    intro w
    unfold ly_gf at w
    rw [if_pos (by omega)] at w
    exact ly_br (P := fun z => wX_nextOrder_47 post (nI r0) fl flo a (ly_ar q) r f n z (nI (j + 1))) (fun z => nm_r (nI_1 j) z) (fun z => nm_r (nI_1 j) z) w
theorem ly_x4n (h : ∀ n, wX_nextOrder_4 post fl flo a (ly_ar q) r f (n + 1) (ly_fd (ly_rf q) (-1) 5) (nI 5)) : wpX_nextOrder post (fl, flo, a, ly_ar q, r, f) := by
  refine ⟨6, ly_st (fun n i s => wX_nextOrder_4 post fl flo a (ly_ar q) r f n s (nI i)) (ly_fd (ly_rf q) (-1)) 5 h ?_ 5 0 rfl⟩
  intro n i hi w
  refine br_f (ly_n5 i hi) ⟨ly_i (by omega), ?_⟩
  rw [nI_1 i]
  refine ⟨ly_i (by omega), ?_⟩
  rw [ly_arv q (show i + 1 < 6 by omega), ly_arv q (show i < 6 by omega)]
  exact ly_br (P := fun z => wX_nextOrder_4 post fl flo a (ly_ar q) r f n z (nI (i + 1))) (fun z => nm_e z) (fun z => nm_e z) w
theorem ly_xnA {r0 g0 : Nat} (hr : r0 < 5) (hg : g0 < 6) (e1 : ly_fd (ly_rf q) (-1) 5 = nI r0) (e2 : ly_fd (ly_gf q r0) (nI (r0 + 1)) 6 = nI g0) (h : post (fl, flo, a, ly_rv 3 (ly_sw (ly_ar q) r0 g0) (r0 + 1) 5, r, f)) : wpX_nextOrder post (fl, flo, a, ly_ar q, r, f) := by
  refine ly_x4n (fun n => br_t (by decide) ?_)
  rw [e1]
  exact br_t (nI_pos' (by omega)) (nm_r (nI_1 r0) (nm_r (nI_1 r0) ⟨5 - r0 + 1, ly_x47 hr hg e2 h⟩))
theorem ly_xnB (e1 : ly_fd (ly_rf q) (-1) 5 = -1) (h : post (fl, flo, a, ly_ar q, r, f)) : wpX_nextOrder post (fl, flo, a, ly_ar q, r, f) := by
  refine ly_x4n (fun n => br_t (by decide) ?_)
  rw [e1]
  exact br_f (by decide) h
theorem ly_rvT : ∀ (d : Nat) (o : Nat → Int32) (i j : Nat), j < 6 → ly_T o → ly_T (ly_rv d o i j) := by
  intro d
  induction d with
  | zero => intro o i j _ h; exact h
  | succ d ih =>
    intro o i j hj h
    unfold ly_rv
    by_cases hji : j ≤ i
    · rw [if_pos hji]; exact h
    · rw [if_neg hji]
      exact ih _ _ _ (by omega) (ly_Tu (ly_Tu h (by omega)) hj)
theorem ly_xno {n : Nat} (hn : n < 720) (h : post (fl, flo, a, ly_ar (ly_q (n + 1)), r, f)) : wpX_nextOrder post (fl, flo, a, ly_ar (ly_q n), r, f) := by
  by_cases h7 : n < 719
  · have hk := ly_k1 n h7
    have e : ly_nx (ly_q n) = ly_ar (ly_q (n + 1)) := ly_Te (ly_rvT 3 _ _ 5 (by omega) (ly_Tu (ly_Tu (ly_arT _) (by omega)) (by omega))) (ly_arT _) (ly_k4 n h7)
    rw [← e] at h
    exact ly_xnA hk.1 hk.2 (ly_k2 n h7) (ly_k3 n h7) h
  · have e : n = 719 := by omega
    subst e
    have e : ly_ar (ly_q 720) = ly_ar (ly_q 719) := ly_Te (ly_arT _) (ly_arT _) ly_k6
    rw [show (719 + 1 : Nat) = 720 from rfl, e] at h
    exact ly_xnB ly_k5 h
theorem ly_xso {o : Nat → Int32} (ho : ly_T o) (h : post (fl, flo, a, ly_ar (ly_q 0), r, f)) : wpX_startOrders post (fl, flo, a, o, r, f) := by
  refine ⟨7, ly_st (fun n i oo => wX_startOrders_2 post fl flo n (nI i) a oo r f) (fun i => ly_mi i nI o) 6 ?_ ?_ 6 0 rfl⟩
  · intro n
    refine br_t (by decide) ?_
    have e : ly_mi 6 nI o = ly_ar (ly_q 0) := by
      refine ly_Te (fun j hj => (if_neg (by omega)).trans (ho j hj)) (ly_arT _) (fun j hj => ?_)
      rw [ly_ar6 _ hj, ly_k7 j hj]
      exact if_pos hj
    show post (fl, flo, a, ly_mi 6 nI o, r, f)
    rw [e]
    exact h
  · intro n j hj w
    exact br_f (ly_n6 j hj) ⟨ly_i hj, nm_r (by rw [ly_c hj]; exact ly_miu j nI o) (nm_r (nI_1 j) w)⟩
theorem ly_xko {o : Nat → Int32} (ho : ly_T o) (hf : ly_T f) (h : post (fl, flo, a, o, r, o)) : wpX_keepOrder post (fl, flo, a, o, r, f) := by
  refine ⟨7, ly_st (fun n i ff => wX_keepOrder_2 post fl flo n (nI i) a o r ff) (fun i => ly_mi i o f) 6 ?_ ?_ 6 0 rfl⟩
  · intro n
    refine br_t (by decide) ?_
    show post (fl, flo, a, o, r, ly_mi 6 o f)
    rw [ly_mi6 ho hf]
    exact h
  · intro n j hj w
    exact br_f (ly_n6 j hj) ⟨ly_i hj, ly_i hj, nm_r (by rw [ly_c hj]; exact ly_miu j o f) (nm_r (nI_1 j) w)⟩
end
