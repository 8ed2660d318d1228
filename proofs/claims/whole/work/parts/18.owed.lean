/-- the same graph on both sides; what the reference keeps of its last going over is right, or marked as not known -/
def i_Rel (k : Nat) (u : SX) (v : SY) : Prop := ∃ (fl flo : Int32) (a o r f : Nat → Int32) (kn : Int32) (lf rw nm ls cs fs : Nat → Int32), u = (fl, flo, a, o, r, f) ∧ v = (kn, a, lf, rw, nm, ls, cs, fs) ∧ ly_G a ∧ ly_T o ∧ ly_T r ∧ ly_T f ∧ ly_T lf ∧ ly_T rw ∧ (kn = 0 ∨ ly_Ca a ls cs fs)
theorem ly_rel {k : Nat} {fl flo : Int32} {a o r f : Nat → Int32} {kn : Int32} {lf rw nm ls cs fs : Nat → Int32} (hG : ly_G a) (ho : ly_T o) (hr : ly_T r) (hf : ly_T f) (hl : ly_T lf) (hw : ly_T rw) (hc : kn = 0 ∨ ly_Ca a ls cs fs) : i_Rel k (fl, flo, a, o, r, f) (kn, a, lf, rw, nm, ls, cs, fs) :=
  ⟨fl, flo, a, o, r, f, kn, lf, rw, nm, ls, cs, fs, rfl, rfl, hG, ho, hr, hf, hl, hw, hc⟩
theorem i_up {k : Nat} {u : SX} {v : SY} (h : i_Rel k u v) : i_Rel (k + 3) u v := h
theorem ly_G0 : ly_G (fun _ => 0) := ⟨ly_T0, fun _ k _ => b_0 k, fun p k => (b_0 k).trans (b_0 p).symm, fun p => b_0 p⟩
theorem i_vc0 : wpX_init (fun u => wpY_init (fun v => i_Rel 0 u v)) := ly_rel (k := 0) ly_G0 ly_T0 ly_T0 ly_T0 ly_T0 ly_T0 (Or.inl rfl)
theorem i_vc_line {k : Nat} {u : SX} {v : SY} (I : i_Rel k u v) (hk : k + 3 ≤ 1536) (v1 : Int32) (v2 : Int32) : wpX_line (fun r u' => wpY_line (fun r' v' => r' = r ∧ i_Rel (k + 3) u' v') v v1 v2) u v1 v2 := by
  obtain ⟨fl, flo, a, o, r, f, kn, lf, rw, nm, ls, cs, fs, rfl, rfl, hG, ho, hr, hf, hl, hw, hc⟩ := I
  unfold wpX_line wpY_line
  rcases ly_pair (kn := kn) (a := a) (lf := lf) (rw := rw) (nm := nm) (ls := ls) (cs := cs) (fs := fs) v1 v2 with ⟨p, t, hp, ht, hn, rfl, rfl⟩ | ⟨hX, hY⟩
  · refine ly_xpr hp ht hn (br_f (by decide) (ly_xtl hp ht ?_))
    have hG' := ly_tgG hp ht hn hG
    refine ly_xij hp (fun hb => br_f (by decide) ?_) (fun hb => br_t rfl ?_)
    · refine ly_ypr hp ht hn (br_f (by decide) (ly_yex hp ht ⟨ly_i hp, ?_⟩))
      rw [ly_c hp]
      exact ⟨hb, ly_rel hG' ho hr hf hl hw (Or.inl rfl)⟩
    · refine ly_ypr hp ht hn (br_f (by decide) (ly_yex hp ht ⟨ly_i hp, ?_⟩))
      rw [ly_c hp]
      have e : ly_bit (ly_tg a p t p) t = 0 := by
        rw [ly_bitv _ (show t < 32 by omega), (ly_bit0 _ (show t < 32 by omega)).mp hb]
        rfl
      exact ⟨e, ly_rel hG' ho hr hf hl hw (Or.inl rfl)⟩
  · exact hX _ (br_t rfl (hY _ (br_t rfl ⟨rfl, ly_rel hG ho hr hf hl hw hc⟩)))
theorem ly_xclr {fl flo x : Int32} {a o r f : Nat → Int32} (ha : ly_T a) {post : Int32 → SX → Prop} (h : post x (fl, flo, (fun _ => 0), o, r, f)) : ∃ n, wX_clear_7 post x fl flo n 0 a o r f := by
  refine ⟨7, ly_st (fun n i aa => wX_clear_7 post x fl flo n (nI i) aa o r f) (fun i => ly_mi i (fun _ => 0) a) 6 ?_ ?_ 6 0 rfl⟩
  · intro n
    refine br_t (by decide) ?_
    show post x (fl, flo, ly_mi 6 (fun _ => 0) a, o, r, f)
    rw [ly_mi6 ly_T0 ha]
    exact h
  · intro n j hj w
    exact br_f (ly_n6 j hj) ⟨ly_i hj, nm_r (by rw [ly_c hj]; exact ly_miu j (fun _ => 0) a) (nm_r (nI_1 j) w)⟩
theorem ly_yclr {kn x : Int32} {a lf rw nm ls cs fs : Nat → Int32} (ha : ly_T a) {post : Int32 → SY → Prop} (h : post x (0, (fun _ => 0), lf, rw, nm, ls, cs, fs)) : ∃ n, wY_clear_7 post x kn n 0 a lf rw nm ls cs fs := by
  refine ⟨7, ly_st (fun n i aa => wY_clear_7 post x kn n (nI i) aa lf rw nm ls cs fs) (fun i => ly_mi i (fun _ => 0) a) 6 ?_ ?_ 6 0 rfl⟩
  · intro n
    refine br_t (by decide) ?_
    show post x (0, ly_mi 6 (fun _ => 0) a, lf, rw, nm, ls, cs, fs)
    rw [ly_mi6 ly_T0 ha]
    exact h
  · intro n j hj w
    exact br_f (ly_n6 j hj) ⟨ly_i hj, nm_r (by rw [ly_c hj]; exact ly_miu j (fun _ => 0) a) (nm_r (nI_1 j) w)⟩
theorem i_vc_clear {k : Nat} {u : SX} {v : SY} (I : i_Rel k u v) (hk : k + 3 ≤ 1536) : wpX_clear (fun r u' => wpY_clear (fun r' v' => r' = r ∧ i_Rel (k + 3) u' v') v) u := by
  obtain ⟨fl, flo, a, o, r, f, kn, lf, rw, nm, ls, cs, fs, rfl, rfl, hG, ho, hr, hf, hl, hw, hc⟩ := I
  unfold wpX_clear wpY_clear
  exact ly_xcl (ly_xclr hG.1 (ly_ycl (ly_yclr hG.1 ⟨rfl, ly_rel ly_G0 ho hr hf hl hw (Or.inl rfl)⟩)))
theorem i_vc_lines {k : Nat} {u : SX} {v : SY} (I : i_Rel k u v) (hk : k + 3 ≤ 1536) : wpX_lines (fun r => wpY_lines (fun r' => r' = r ∧ i_Rel (k + 3) u v) v) u := by
  obtain ⟨fl, flo, a, o, r, f, kn, lf, rw, nm, ls, cs, fs, rfl, rfl, hG, ho, hr, hf, hl, hw, hc⟩ := I
  unfold wpX_lines
  exact ly_xcl (ly_ycl ⟨rfl, ly_rel hG ho hr hf hl hw hc⟩)
theorem i_vc_cutWidth {k : Nat} {u : SX} {v : SY} (I : i_Rel k u v) (hk : k + 3 ≤ 1536) : wpX_cutWidth (fun r u' => wpY_cutWidth (fun r' v' => r' = r ∧ i_Rel (k + 3) u' v') v) u := by
  obtain ⟨fl, flo, a, o, r, f, kn, lf, rw, nm, ls, cs, fs, rfl, rfl, hG, ho, hr, hf, hl, hw, hc⟩ := I
  unfold wpX_cutWidth wpY_cutWidth
  refine ly_xsv (m := 0) (by decide) hG.1 ho hr hf (ly_hb a (by decide)) (fun r f hr hf _ => ?_)
  exact ly_yle (m := 0) hG (by decide) hl hw hc (fun kn lf rw nm ls cs fs h1 h2 h3 => ⟨rfl, ly_rel hG (ly_arT _) hr hf h1 h2 (Or.inr h3)⟩)
theorem i_vc_separation {k : Nat} {u : SX} {v : SY} (I : i_Rel k u v) (hk : k + 3 ≤ 1536) : wpX_separation (fun r u' => wpY_separation (fun r' v' => r' = r ∧ i_Rel (k + 3) u' v') v) u := by
  obtain ⟨fl, flo, a, o, r, f, kn, lf, rw, nm, ls, cs, fs, rfl, rfl, hG, ho, hr, hf, hl, hw, hc⟩ := I
  unfold wpX_separation wpY_separation
  refine ly_xsv (m := 1) (by decide) hG.1 ho hr hf (ly_hb a (by decide)) (fun r f hr hf _ => ?_)
  exact ly_yle (m := 1) hG (by decide) hl hw hc (fun kn lf rw nm ls cs fs h1 h2 h3 => ⟨rfl, ly_rel hG (ly_arT _) hr hf h1 h2 (Or.inr h3)⟩)
theorem i_vc_stretch {k : Nat} {u : SX} {v : SY} (I : i_Rel k u v) (hk : k + 3 ≤ 1536) : wpX_stretch (fun r u' => wpY_stretch (fun r' v' => r' = r ∧ i_Rel (k + 3) u' v') v) u := by
  obtain ⟨fl, flo, a, o, r, f, kn, lf, rw, nm, ls, cs, fs, rfl, rfl, hG, ho, hr, hf, hl, hw, hc⟩ := I
  unfold wpX_stretch wpY_stretch
  refine ly_xsv (m := 2) (by decide) hG.1 ho hr hf (ly_hb a (by decide)) (fun r f hr hf _ => ?_)
  exact ly_yle (m := 2) hG (by decide) hl hw hc (fun kn lf rw nm ls cs fs h1 h2 h3 => ⟨rfl, ly_rel hG (ly_arT _) hr hf h1 h2 (Or.inr h3)⟩)
theorem i_vc_length {k : Nat} {u : SX} {v : SY} (I : i_Rel k u v) (hk : k + 3 ≤ 1536) : wpX_length (fun r u' => wpY_length (fun r' v' => r' = r ∧ i_Rel (k + 3) u' v') v) u := by
  obtain ⟨fl, flo, a, o, r, f, kn, lf, rw, nm, ls, cs, fs, rfl, rfl, hG, ho, hr, hf, hl, hw, hc⟩ := I
  unfold wpX_length wpY_length
  refine ly_xsv (m := 3) (by decide) hG.1 ho hr hf (ly_hb a (by decide)) (fun r f hr hf _ => ?_)
  exact ly_yle (m := 3) hG (by decide) hl hw hc (fun kn lf rw nm ls cs fs h1 h2 h3 => ⟨rfl, ly_rel hG (ly_arT _) hr hf h1 h2 (Or.inr h3)⟩)
theorem i_vc_width {k : Nat} {u : SX} {v : SY} (I : i_Rel k u v) (hk : k + 3 ≤ 1536) : wpX_width (fun r u' => wpY_width (fun r' v' => r' = r ∧ i_Rel (k + 3) u' v') v) u := by
  obtain ⟨fl, flo, a, o, r, f, kn, lf, rw, nm, ls, cs, fs, rfl, rfl, hG, ho, hr, hf, hl, hw, hc⟩ := I
  unfold wpX_width wpY_width
  refine ly_xsv (m := 4) (by decide) hG.1 ho hr hf (ly_hb a (by decide)) (fun r f hr hf _ => ?_)
  exact ly_yle (m := 4) hG (by decide) hl hw hc (fun kn lf rw nm ls cs fs h1 h2 h3 => ⟨rfl, ly_rel hG (ly_arT _) hr hf h1 h2 (Or.inr h3)⟩)
theorem i_vc_fill {k : Nat} {u : SX} {v : SY} (I : i_Rel k u v) (hk : k + 3 ≤ 1536) : wpX_fill (fun r u' => wpY_fill (fun r' v' => r' = r ∧ i_Rel (k + 3) u' v') v) u := by
  obtain ⟨fl, flo, a, o, r, f, kn, lf, rw, nm, ls, cs, fs, rfl, rfl, hG, ho, hr, hf, hl, hw, hc⟩ := I
  unfold wpX_fill wpY_fill
  refine ly_xsv (m := 5) (by decide) hG.1 ho hr hf (ly_hb a (by decide)) (fun r f hr hf _ => ?_)
  exact ly_yle (m := 5) hG (by decide) hl hw hc (fun kn lf rw nm ls cs fs h1 h2 h3 => ⟨rfl, ly_rel hG (ly_arT _) hr hf h1 h2 (Or.inr h3)⟩)
theorem i_vc_cutOrders {k : Nat} {u : SX} {v : SY} (I : i_Rel k u v) (hk : k + 3 ≤ 1536) : wpX_cutOrders (fun r u' => wpY_cutOrders (fun r' v' => r' = r ∧ i_Rel (k + 3) u' v') v) u := by
  obtain ⟨fl, flo, a, o, r, f, kn, lf, rw, nm, ls, cs, fs, rfl, rfl, hG, ho, hr, hf, hl, hw, hc⟩ := I
  unfold wpX_cutOrders wpY_cutOrders
  refine ly_xsv (m := 0) (by decide) hG.1 ho hr hf (ly_hb a (by decide)) (fun r f hr hf _ => ?_)
  exact ly_ycn (m := 0) hG (by decide) hl hw hc (fun kn lf rw nm ls cs fs h1 h2 h3 => ⟨rfl, ly_rel hG (ly_arT _) hr hf h1 h2 (Or.inr h3)⟩)
theorem i_vc_lengthOrders {k : Nat} {u : SX} {v : SY} (I : i_Rel k u v) (hk : k + 3 ≤ 1536) : wpX_lengthOrders (fun r u' => wpY_lengthOrders (fun r' v' => r' = r ∧ i_Rel (k + 3) u' v') v) u := by
  obtain ⟨fl, flo, a, o, r, f, kn, lf, rw, nm, ls, cs, fs, rfl, rfl, hG, ho, hr, hf, hl, hw, hc⟩ := I
  unfold wpX_lengthOrders wpY_lengthOrders
  refine ly_xsv (m := 3) (by decide) hG.1 ho hr hf (ly_hb a (by decide)) (fun r f hr hf _ => ?_)
  exact ly_ycn (m := 3) hG (by decide) hl hw hc (fun kn lf rw nm ls cs fs h1 h2 h3 => ⟨rfl, ly_rel hG (ly_arT _) hr hf h1 h2 (Or.inr h3)⟩)
theorem i_vc_fillOrders {k : Nat} {u : SX} {v : SY} (I : i_Rel k u v) (hk : k + 3 ≤ 1536) : wpX_fillOrders (fun r u' => wpY_fillOrders (fun r' v' => r' = r ∧ i_Rel (k + 3) u' v') v) u := by
  obtain ⟨fl, flo, a, o, r, f, kn, lf, rw, nm, ls, cs, fs, rfl, rfl, hG, ho, hr, hf, hl, hw, hc⟩ := I
  unfold wpX_fillOrders wpY_fillOrders
  refine ly_xsv (m := 5) (by decide) hG.1 ho hr hf (ly_hb a (by decide)) (fun r f hr hf _ => ?_)
  exact ly_ycn (m := 5) hG (by decide) hl hw hc (fun kn lf rw nm ls cs fs h1 h2 h3 => ⟨rfl, ly_rel hG (ly_arT _) hr hf h1 h2 (Or.inr h3)⟩)
theorem i_vc_lengthOrder {k : Nat} {u : SX} {v : SY} (I : i_Rel k u v) (hk : k + 3 ≤ 1536) (v1 : Int32) : wpX_lengthOrder (fun r u' => wpY_lengthOrder (fun r' v' => r' = r ∧ i_Rel (k + 3) u' v') v v1) u v1 := by
  obtain ⟨fl, flo, a, o, r, f, kn, lf, rw, nm, ls, cs, fs, rfl, rfl, hG, ho, hr, hf, hl, hw, hc⟩ := I
  unfold wpX_lengthOrder wpY_lengthOrder
  rcases pk_ix v1 (n := 6) (by decide) with h | h | ⟨p, hp, rfl⟩
  · exact ly_xr0 (Or.inl h) (br_t rfl (br_t h ⟨rfl, ly_rel hG ho hr hf hl hw hc⟩))
  · have h0 : ¬ v1 < 0 := fun z => absurd (Int32.lt_of_lt_of_le (Int32.lt_trans z (by decide : (0 : Int32) < nI 6)) h) (Int32.lt_irrefl)
    exact ly_xr0 (Or.inr h) (br_t rfl (br_f h0 (br_f (Int32.not_le.mpr (ly_h5 h)) ⟨rfl, ly_rel hG ho hr hf hl hw hc⟩)))
  · refine ly_xr1 hp (br_f (by decide) (ly_xsv (m := 3) (by decide) hG.1 ho hr hf (ly_hb a (by decide)) (fun r f hr hf ef => ⟨ly_i hp, ?_⟩)))
    rw [ly_c hp]
    exact ly_yfl (m := 3) hG (by decide) hp hl hw hc (fun kn lf rw nm ls cs fs h1 h2 h3 => ⟨by rw [ef], ly_rel hG (ly_arT _) hr hf h1 h2 (Or.inr h3)⟩)
theorem i_vc_widthOrder {k : Nat} {u : SX} {v : SY} (I : i_Rel k u v) (hk : k + 3 ≤ 1536) (v1 : Int32) : wpX_widthOrder (fun r u' => wpY_widthOrder (fun r' v' => r' = r ∧ i_Rel (k + 3) u' v') v v1) u v1 := by
  obtain ⟨fl, flo, a, o, r, f, kn, lf, rw, nm, ls, cs, fs, rfl, rfl, hG, ho, hr, hf, hl, hw, hc⟩ := I
  unfold wpX_widthOrder wpY_widthOrder
  rcases pk_ix v1 (n := 6) (by decide) with h | h | ⟨p, hp, rfl⟩
  · exact ly_xr0 (Or.inl h) (br_t rfl (br_t h ⟨rfl, ly_rel hG ho hr hf hl hw hc⟩))
  · have h0 : ¬ v1 < 0 := fun z => absurd (Int32.lt_of_lt_of_le (Int32.lt_trans z (by decide : (0 : Int32) < nI 6)) h) (Int32.lt_irrefl)
    exact ly_xr0 (Or.inr h) (br_t rfl (br_f h0 (br_f (Int32.not_le.mpr (ly_h5 h)) ⟨rfl, ly_rel hG ho hr hf hl hw hc⟩)))
  · refine ly_xr1 hp (br_f (by decide) (ly_xsv (m := 4) (by decide) hG.1 ho hr hf (ly_hb a (by decide)) (fun r f hr hf ef => ⟨ly_i hp, ?_⟩)))
    rw [ly_c hp]
    exact ly_yfl (m := 4) hG (by decide) hp hl hw hc (fun kn lf rw nm ls cs fs h1 h2 h3 => ⟨by rw [ef], ly_rel hG (ly_arT _) hr hf h1 h2 (Or.inr h3)⟩)
theorem i_vc_whole {k : Nat} {u : SX} {v : SY} (I : i_Rel k u v) (hk : k + 3 ≤ 1536) : wpX_whole (fun r u' => wpY_whole (fun r' v' => r' = r ∧ i_Rel (k + 3) u' v') v) u := by
  obtain ⟨fl, flo, a, o, r, f, kn, lf, rw, nm, ls, cs, fs, rfl, rfl, hG, ho, hr, hf, hl, hw, hc⟩ := I
  unfold wpX_whole wpY_whole
  refine ly_xsv (m := 5) (by decide) hG.1 ho hr hf (ly_hb a (by decide)) (fun r f hr hf _ => ?_)
  by_cases hz : ly_LL 5 a = 0
  · refine br_t hz ?_
    exact ly_yle (m := 5) hG (by decide) hl hw hc (fun kn lf rw nm ls cs fs h1 h2 h3 => br_t hz ⟨rfl, ly_rel hG (ly_arT _) hr hf h1 h2 (Or.inr h3)⟩)
  · refine br_f hz ?_
    exact ly_yle (m := 5) hG (by decide) hl hw hc (fun kn lf rw nm ls cs fs h1 h2 h3 => br_f hz ⟨rfl, ly_rel hG (ly_arT _) hr hf h1 h2 (Or.inr h3)⟩)
theorem i_vc_growth {k : Nat} {u : SX} {v : SY} (I : i_Rel k u v) (hk : k + 3 ≤ 1536) (v1 : Int32) (v2 : Int32) : wpX_growth (fun r u' => wpY_growth (fun r' v' => r' = r ∧ i_Rel (k + 3) u' v') v v1 v2) u v1 v2 := by
  obtain ⟨fl, flo, a, o, r, f, kn, lf, rw, nm, ls, cs, fs, rfl, rfl, hG, ho, hr, hf, hl, hw, hc⟩ := I
  unfold wpX_growth wpY_growth
  rcases ly_pair (kn := kn) (a := a) (lf := lf) (rw := rw) (nm := nm) (ls := ls) (cs := cs) (fs := fs) v1 v2 with ⟨p, t, hp, ht, hn, rfl, rfl⟩ | ⟨hX, hY⟩
  · refine ly_xpr hp ht hn (br_f (by decide) (ly_xij hp (fun hb => br_f (by decide) ?_) (fun hb => br_t rfl ?_)))
    · refine ly_ypr hp ht hn (br_f (by decide) ⟨ly_i hp, ?_⟩)
      rw [ly_c hp]
      exact br_t hb ⟨rfl, ly_rel hG ho hr hf hl hw hc⟩
    · have hG' := ly_tgG hp ht hn hG
      refine ly_xsv (m := 4) (by decide) hG.1 ho hr hf (ly_hb a (by decide)) (fun r1 f1 hr1 hf1 _ => ?_)
      refine ly_xtl hp ht ?_
      refine ly_xsv (m := 4) (by decide) hG'.1 (ly_arT _) hr1 hf1 (ly_hb _ (by decide)) (fun r2 f2 hr2 hf2 _ => ?_)
      refine ly_xtl hp ht ?_
      rw [ly_tgg a hp ht hn]
      refine ly_ypr hp ht hn (br_f (by decide) ⟨ly_i hp, ?_⟩)
      rw [ly_c hp]
      refine br_f hb ?_
      refine ly_yle (m := 4) hG (by decide) hl hw hc (fun kn1 lf1 rw1 nm1 ls1 cs1 fs1 h1 h2 h3 => ?_)
      refine ly_yex hp ht ?_
      refine ly_ywn hG' h1 h2 (fun lf2 rw2 nm2 h4 h5 => ?_)
      refine ly_yex hp ht ?_
      rw [ly_tgg a hp ht hn]
      exact ⟨rfl, ly_rel hG (ly_arT _) hr2 hf2 h4 h5 (Or.inr h3)⟩
  · exact hX _ (br_t rfl (hY _ (br_t rfl ⟨rfl, ly_rel hG ho hr hf hl hw hc⟩)))
theorem i_vc_clique {k : Nat} {u : SX} {v : SY} (I : i_Rel k u v) (hk : k + 3 ≤ 1536) : wpX_clique (fun r => wpY_clique (fun r' => r' = r ∧ i_Rel (k + 3) u v) v) u := by
  obtain ⟨fl, flo, a, o, r, f, kn, lf, rw, nm, ls, cs, fs, rfl, rfl, hG, ho, hr, hf, hl, hw, hc⟩ := I
  exact ly_xkq (ly_ykq ⟨rfl, ly_rel hG ho hr hf hl hw hc⟩)
