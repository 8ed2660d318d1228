/-- the neighbours after b's neighbours s have been joined, b out of them -/
def ly_tr (b : Nat) (s : Int32) (r : Nat → Int32) : Nat → Int32 := fun p => if ly_bit s p = 1 then (r p ||| (s &&& ly_mk p)) &&& ly_mk b else r p
def ly_ne (s : Int32) (r : Nat → Int32) : Nat → Int32 := ly_fd (fun p c => if ly_bit s p = 1 then c + ly_pc ((s &&& ly_mk p) &&& (r p ^^^ (-1))) else c) 0
def ly_tk (b : Nat) (r : Nat → Int32) : Nat → Int32 := upd (ly_mi 6 (ly_tr b (r b) r) r) b 0
def ly_te (b : Nat) (r : Nat → Int32) : Int32 := ly_ne (r b) r 6 / 2
theorem ly_mij (j : Nat) (F g : Nat → Int32) : ly_mi j F g j = g j := if_neg (Nat.lt_irrefl j)
theorem ly_mis {j : Nat} {F g : Nat → Int32} (h : F j = g j) : ly_mi (j + 1) F g = ly_mi j F g := by
  rw [← ly_miu, h]
  funext k
  unfold upd ly_mi
  by_cases h : k = j
  · rw [if_pos h, if_neg (by omega), h]
  · rw [if_neg h]
theorem ly_nes {s : Int32} {r : Nat → Int32} {j : Nat} (h : ly_bit s j = 1) : ly_ne s r (j + 1) = ly_ne s r j + ly_pc ((s &&& ly_mk j) &&& (r j ^^^ (-1))) := if_pos h
theorem ly_nen {s : Int32} {r : Nat → Int32} {j : Nat} (h : ¬ ly_bit s j = 1) : ly_ne s r (j + 1) = ly_ne s r j := if_neg h
section
variable {fl flo : Int32} {a r f o : Nat → Int32} {q : Nat → Nat}
theorem ly_xto {post : Int32 → SX → Prop} {b : Nat} (hb : b < 6) (h : post (ly_te b r) (fl, flo, a, o, ly_tk b r, f)) : wpX_takeOut post (fl, flo, a, o, r, f) (nI b) := by
  refine ⟨ly_i hb, nm_r (e' := r b) (by rw [ly_c hb]) ⟨7, ly_st2 (fun n i c rr => wX_takeOut_12 post (nI b) (r b) fl flo n c (nI i) a o rr f) (ly_ne (r b) r) (fun i => ly_mi i (ly_tr b (r b) r) r) 6 ?_ ?_ 6 0 rfl⟩⟩
  · intro n
    exact br_t (by decide) ⟨ly_i hb, nm_r (e' := ly_tk b r) (by rw [ly_c hb]; rfl) ⟨by decide, h⟩⟩
  · intro n j hj w
    refine br_f (ly_n6 j hj) ?_
    by_cases hbit : ly_bit (r b) j = 1
    · refine br_t hbit (nm_r (e' := r b &&& ly_mk j) rfl ⟨ly_i hj, ly_xcp (nm_r (e' := ly_ne (r b) r (j + 1)) ?_ ⟨ly_i hj, ly_i hj, nm_r (e' := ly_mi (j + 1) (ly_tr b (r b) r) r) ?_ (nm_r (nI_1 j) w)⟩)⟩)
      · rw [ly_c hj, ly_mij, ly_nes hbit]
      · rw [ly_c hj, ly_mij, ← ly_miu, show ly_tr b (r b) r j = (r j ||| (r b &&& ly_mk j)) &&& ly_mk b from if_pos hbit]
        rfl
    · have e1 := ly_nen (r := r) hbit
      have e2 : ly_mi (j + 1) (ly_tr b (r b) r) r = ly_mi j (ly_tr b (r b) r) r := ly_mis (if_neg hbit)
      refine br_f hbit (nm_r (nI_1 j) ?_)
      have w' : wX_takeOut_12 post (nI b) (r b) fl flo n (ly_ne (r b) r (j + 1)) (nI (j + 1)) a o (ly_mi (j + 1) (ly_tr b (r b) r) r) f := w
      rw [e1, e2] at w'
      exact w'
theorem ly_xsa {post : SX → Prop} (ha : ly_T a) (hr : ly_T r) (h : post (fl, flo, a, o, a, f)) : wpX_startTakingApart post (fl, flo, a, o, r, f) := by
  refine ⟨7, ly_st (fun n i rr => wX_startTakingApart_2 post fl flo n (nI i) a o rr f) (fun i => ly_mi i a r) 6 ?_ ?_ 6 0 rfl⟩
  · intro n
    refine br_t (by decide) ?_
    show post (fl, flo, a, o, ly_mi 6 a r, f)
    rw [ly_mi6 ha hr]
    exact h
  · intro n j hj w
    exact br_f (ly_n6 j hj) ⟨ly_i hj, ly_i hj, nm_r (by rw [ly_c hj]; exact ly_miu j a r) (nm_r (nI_1 j) w)⟩
/-- the neighbours that are left when i points are out -/
def ly_R (a : Nat → Int32) (q : Nat → Nat) : Nat → Nat → Int32
  | 0 => a
  | i + 1 => ly_tk (q i) (ly_R a q i)
def ly_M4 (a : Nat → Int32) (q : Nat → Nat) : Int32 := ly_fd (fun i g => ly_mx g (ly_pc (ly_R a q i (q i)))) 0 6
def ly_M5 (a : Nat → Int32) (q : Nat → Nat) : Int32 := ly_fd (fun i g => g + ly_te (q i) (ly_R a q i)) 0 6
theorem ly_tkT {b : Nat} (hb : b < 6) (hr : ly_T r) : ly_T (ly_tk b r) := by
  refine ly_Tu (fun j hj => ?_) hb
  show (if j < 6 then _ else r j) = 0
  rw [if_neg (by omega)]
  exact hr j hj
theorem ly_RT (hq : ∀ i, i < 6 → q i < 6) (ha : ly_T a) : ∀ i, i ≤ 6 → ly_T (ly_R a q i) := by
  intro i
  induction i with
  | zero => intro _; exact ha
  | succ i ih => intro h; exact ly_tkT (hq i (by omega)) (ih (by omega))
theorem ly_x4 (hq : ∀ i, i < 6 → q i < 6) (ha : ly_T a) (hr : ly_T r) {post : Int32 → SX → Prop} (h : post (ly_M4 a q) (fl, flo, a, ly_ar q, ly_R a q 6, f)) : wpX_orderWidth post (fl, flo, a, ly_ar q, r, f) := by
  have h' : post (ly_fd (fun i g => ly_mx g (ly_pc (ly_R a q i (q i)))) 0 6) (fl, flo, a, ly_ar q, ly_R a q 6, f) := h
  clear h
  refine ly_xsa ha hr ⟨7, ly_st2 (fun n i g rr => wX_orderWidth_8 post n g (nI i) fl flo a (ly_ar q) rr f) (ly_fd (fun i g => ly_mx g (ly_pc (ly_R a q i (q i)))) 0) (ly_R a q) 6 (fun n => br_t (by decide) h') ?_ 6 0 rfl⟩
  intro n i hi w
  refine br_f (ly_n6 i hi) ⟨ly_i hi, ly_iq hq hi, ly_xcp ?_⟩
  rw [ly_aq (a := ly_R a q i) (j := i) hq hi]
  have k : ∀ z, wX_orderWidth_8 post n z (nI (i + 1)) fl flo a (ly_ar q) (ly_R a q (i + 1)) f → wX_orderWidth_36 post (wX_orderWidth_8 post n) z (nI i) fl flo a (ly_ar q) (ly_R a q i) f := by
    intro z hz
    refine ⟨ly_i hi, ?_⟩
    rw [ly_arv q hi]
    exact ly_xto (hq i hi) (nm_r (nI_1 i) hz)
  exact ly_br (P := fun z => wX_orderWidth_8 post n z (nI (i + 1)) fl flo a (ly_ar q) (ly_R a q (i + 1)) f) (fun z => k _ z) (fun z => k _ z) w
theorem ly_x5 (hq : ∀ i, i < 6 → q i < 6) (ha : ly_T a) (hr : ly_T r) {post : Int32 → SX → Prop} (h : post (ly_M5 a q) (fl, flo, a, ly_ar q, ly_R a q 6, f)) : wpX_orderFill post (fl, flo, a, ly_ar q, r, f) := by
  have h' : post (ly_fd (fun i g => g + ly_te (q i) (ly_R a q i)) 0 6) (fl, flo, a, ly_ar q, ly_R a q 6, f) := h
  clear h
  refine ly_xsa ha hr ⟨7, ly_st2 (fun n i g rr => wX_orderFill_8 post n g (nI i) fl flo a (ly_ar q) rr f) (ly_fd (fun i g => g + ly_te (q i) (ly_R a q i)) 0) (ly_R a q) 6 (fun n => br_t (by decide) h') ?_ 6 0 rfl⟩
  intro n i hi w
  refine br_f (ly_n6 i hi) ⟨ly_i hi, ?_⟩
  rw [ly_arv q hi]
  exact ly_xto (hq i hi) (nm_e (nm_r (nI_1 i) w))
/-- measure m of order q -/
def ly_M (m : Nat) (a : Nat → Int32) (q : Nat → Nat) : Int32 :=
  if m = 0 then ly_M0 a q else if m = 1 then ly_M1 a q else if m = 2 then ly_M2 a q else if m = 3 then ly_M3 a q else if m = 4 then ly_M4 a q else ly_M5 a q
theorem ly_Me0 : ly_M 0 a q = ly_M0 a q := if_pos rfl
theorem ly_Me1 : ly_M 1 a q = ly_M1 a q := by
  unfold ly_M
  rw [if_neg (by decide), if_pos rfl]
theorem ly_Me2 : ly_M 2 a q = ly_M2 a q := by
  unfold ly_M
  rw [if_neg (by decide), if_neg (by decide), if_pos rfl]
theorem ly_Me3 : ly_M 3 a q = ly_M3 a q := by
  unfold ly_M
  rw [if_neg (by decide), if_neg (by decide), if_neg (by decide), if_pos rfl]
theorem ly_Me4 : ly_M 4 a q = ly_M4 a q := by
  unfold ly_M
  rw [if_neg (by decide), if_neg (by decide), if_neg (by decide), if_neg (by decide), if_pos rfl]
theorem ly_Me5 : ly_M 5 a q = ly_M5 a q := by
  unfold ly_M
  rw [if_neg (by decide), if_neg (by decide), if_neg (by decide), if_neg (by decide), if_neg (by decide)]
theorem ly_xme (hq : ∀ i, i < 6 → q i < 6) (ha : ly_T a) (hr : ly_T r) {post : Int32 → SX → Prop} {m : Nat} (hm : m < 6) (h : ∀ r', ly_T r' → post (ly_M m a q) (fl, flo, a, ly_ar q, r', f)) : wpX_measureOrder post (fl, flo, a, ly_ar q, r, f) (nI m) := by
  rcases (show m = 0 ∨ m = 1 ∨ m = 2 ∨ m = 3 ∨ m = 4 ∨ m = 5 by omega) with rfl | rfl | rfl | rfl | rfl | rfl
  · simp only [ly_Me0] at h
    exact br_f (by decide) (br_f (by decide) (br_t (by decide) (ly_x0 hq (h r hr))))
  · simp only [ly_Me1] at h
    exact br_f (by decide) (br_f (by decide) (br_f (by decide) (br_t (by decide) (ly_x1 hq (h r hr)))))
  · simp only [ly_Me2] at h
    exact br_f (by decide) (br_f (by decide) (br_f (by decide) (br_f (by decide) (br_t (by decide) (ly_x2 hq (h r hr))))))
  · simp only [ly_Me3] at h
    exact br_f (by decide) (br_f (by decide) (br_f (by decide) (br_f (by decide) (br_f (by decide) (br_t (by decide) (ly_x3 hq (h r hr)))))))
  · simp only [ly_Me4] at h
    exact br_f (by decide) (br_f (by decide) (br_f (by decide) (br_f (by decide) (br_f (by decide) (br_f (by decide) (br_t (by decide) (ly_x4 hq ha hr (h _ (ly_RT hq ha 6 (Nat.le_refl 6))))))))))
  · simp only [ly_Me5] at h
    exact br_f (by decide) (br_t (by decide) (ly_x5 hq ha hr (h _ (ly_RT hq ha 6 (Nat.le_refl 6)))))
end
