/-! PURE 51: told, door, person; what is done -/
theorem dWF.kept {A A' : aH} {D : aD} (W : dWF A D) (h0 : hs A' 0 = hs A 0) (h1 : hs A' 1 = hs A 1) (h3 : hs A 3 ≤ hs A' 3) : dWF A' D := by
  refine ⟨W.1, fun x => ⟨(W.2 x).1, fun k hk => ?_⟩⟩
  obtain ⟨a, b, c, d, e, r⟩ := (W.2 x).2 k hk
  exact ⟨a, fun y => Nat.lt_of_lt_of_le (b y) h3, by rw [h1]; exact c, d, by rw [h0, h1]; exact e, r⟩
theorem hSn_s {A : aH} {d s set k : Nat} (hk : ¬ k = 5) : hs (hSn A d s set) k = hs A k := by
  unfold hSn
  by_cases q : s = 3
  · rw [if_pos q]
    show hs (fo (hC1 set s) (hs A 3) 0 A) k = _
    rw [fo_s]
  · rw [if_neg q]
    unfold hSh
    rw [hUs_s, if_neg hk]
    show hs (fo (hC1 set s) (hs A 3) 0 A) k = _
    rw [fo_s]
theorem hUt_id {A : aH} {t i v : Nat} (h : ht A t i = v) : hUt A t i v = A := by
  obtain ⟨a, b, c⟩ := A
  have e : (fun x y => if x = t ∧ y = i then v else b x y) = b := by
    funext x y
    by_cases q : x = t ∧ y = i
    · rw [if_pos q, q.1, q.2]; exact h.symm
    · rw [if_neg q]
  show (a, (fun x y => if x = t ∧ y = i then v else b x y), c) = (a, b, c)
  rw [e]
theorem hWF_U {A : aH} (W : hWF A) {t i v : Nat} (h : (t = 2 ∧ v ≤ 9) ∨ (t = 9 ∧ v ≤ 9) ∨ (t = 10 ∧ v < 2 ^ hs A 2)) : hWF (hUt A t i v) := by
  have n : ∀ a b, ¬ a = t → ht (hUt A t i v) a b = ht A a b := fun a b q => by rw [hUt_t, if_neg (fun x => q x.1)]
  refine ⟨W.1, fun d hd => ?_, fun w hw => ?_, fun p hp => ?_, W.2.2.2.2.1, W.2.2.2.2.2⟩
  · have x := W.2.1 d hd
    rw [n 0 d (by omega), n 1 d (by omega)]
    refine ⟨x.1, x.2.1, x.2.2.1, ?_⟩
    rw [hUt_t]
    by_cases q : 2 = t ∧ d = i
    · rw [if_pos q]; omega
    · rw [if_neg q]; exact x.2.2.2
  · have x := W.2.2.1 w hw
    rw [n 3 w (by omega)]
    refine ⟨x.1, x.2.1, fun k hk => ?_⟩
    rw [n (4 + k) w (by omega)]
    exact x.2.2 k hk
  · have x := W.2.2.2.1 p hp
    rw [n 8 p (by omega), n 11 p (by omega)]
    refine ⟨x.1, ?_, ?_, x.2.2.2.1, fun k hk => ?_⟩
    · rw [hUt_t]
      by_cases q : 9 = t ∧ p = i
      · rw [if_pos q]; omega
      · rw [if_neg q]; exact x.2.1
    · show _ < 2 ^ hs A 2
      rw [hUt_t]
      by_cases q : 10 = t ∧ p = i
      · rw [if_pos q]; omega
      · rw [if_neg q]; exact x.2.2.1
    · rw [n (12 + k) p (by omega)]
      exact x.2.2.2.2 k hk
theorem wO {w : aW} (h : wOk w) : 12 ≤ w.1 ∧ w.1 ≤ 25 := by
  have := h.1
  omega
theorem PHs.h {w : aW} {k j : Nat} (h : w.1 ≤ k ∧ k ≤ w.1 + 12) : ScHP w k j := Or.inr h
theorem P134.h {k j : Nat} (h : P134 k j) : ScHM k j := Or.inr (Or.inl h)
theorem cs11 {μ : dtM} {w : aW} {f : aF} {A : aH} {z : aZ} (HP : RP μ w f A z) (HM : RM μ f A z) (W : dWF A (zD z)) (x : Int32) : both (f_X11_told 0 x) (f_X12_told 133 x) μ := by
  have C := HP.c
  have HH := HP.ph
  have g5 := HP.g5
  have hnr := HH.nr
  have hnd := HH.nd
  have hnw := HH.nw
  have hnp := HH.np
  cases hq : inR x 7
  · refine both.no HP HM W (-Int32.ofNat 1) (Int32.ofNat 1) ?_ (fun μ1 R1 => ?_)
    · have ne : ∀ j, j < 7 → ¬ x = Int32.ofNat j := fun j hj => inR_ne hq hj (by decide)
      simp only [f_X11_told, f_X11_told_128, C.v0, o_bind, o_call, z_lit, p_fail C]
      rw [if_neg (ne 0 (by decide)), if_neg (ne 1 (by decide)), if_neg (ne 2 (by decide)), if_neg (ne 3 (by decide)), if_neg (ne 4 (by decide)), if_neg (ne 5 (by decide)), if_neg (ne 6 (by decide))]
    · have C1 := R1.c
      simp only [f_X12_told, f_X12_told_10, C1.v133, o_bind, o_call, z_lit, n_refuse C1]
      rcases z_cases x with hx | ⟨k, hk, rfl⟩
      · rw [if_pos hx]
      · rw [inR_n (by decide) hk] at hq
        have := of_decide_eq_false hq
        rw [if_neg (by rw [z_lt0 hk]; exact id), if_neg (by rw [z_le hk (by decide)]; omega)]
  · obtain ⟨k, hk, rfl⟩ := inR_t (by decide) hq
    have hk7 : k = 0 ∨ k = 1 ∨ k = 2 ∨ k = 3 ∨ k = 4 ∨ k = 5 ∨ k = 6 := by omega
    rcases hk7 with rfl | rfl | rfl | rfl | rfl | rfl | rfl
    · refine both.no HP HM W (Int32.ofNat (hs A 0)) (Int32.ofNat 0) ?_ (fun μ1 R1 => ?_)
      · simp only [f_X11_told, f_X11_told_44, C.v0, g5, HH.g0, o_bind, o_call, z_lit, p_ans C, eq_self, if_true]
      · have C1 := R1.c
        have M1 := R1.mh
        have gk := M1.gj (j := 0) (by decide)
        simp only [f_X12_told, C1.v133, C1.g133_0, o_bind, o_call, z_lit, gk, n_gives C1]
        rw [if_neg (by decide), if_pos (by decide)]
    · refine both.no HP HM W (Int32.ofNat (hs A 1)) (Int32.ofNat 0) ?_ (fun μ1 R1 => ?_)
      · simp only [f_X11_told, f_X11_told_56, C.v0, g5, HH.g1, o_bind, o_call, z_lit, p_ans C, eq_self, if_true]
        rw [if_neg (show ¬ Int32.ofNat 1 = Int32.ofNat 0 by decide)]
      · have C1 := R1.c
        have M1 := R1.mh
        have gk := M1.gj (j := 1) (by decide)
        simp only [f_X12_told, C1.v133, C1.g133_0, o_bind, o_call, z_lit, gk, n_gives C1]
        rw [if_neg (by decide), if_pos (by decide)]
    · refine both.no HP HM W (Int32.ofNat (hs A 2)) (Int32.ofNat 0) ?_ (fun μ1 R1 => ?_)
      · simp only [f_X11_told, f_X11_told_68, C.v0, g5, HH.g2, o_bind, o_call, z_lit, p_ans C, eq_self, if_true]
        rw [if_neg (show ¬ Int32.ofNat 2 = Int32.ofNat 0 by decide), if_neg (show ¬ Int32.ofNat 2 = Int32.ofNat 1 by decide)]
      · have C1 := R1.c
        have M1 := R1.mh
        have gk := M1.gj (j := 2) (by decide)
        simp only [f_X12_told, C1.v133, C1.g133_0, o_bind, o_call, z_lit, gk, n_gives C1]
        rw [if_neg (by decide), if_pos (by decide)]
    · refine both.no HP HM W (Int32.ofNat (hs A 3)) (Int32.ofNat 0) ?_ (fun μ1 R1 => ?_)
      · simp only [f_X11_told, f_X11_told_80, C.v0, g5, HH.g3, o_bind, o_call, z_lit, p_ans C, eq_self, if_true]
        rw [if_neg (show ¬ Int32.ofNat 3 = Int32.ofNat 0 by decide), if_neg (show ¬ Int32.ofNat 3 = Int32.ofNat 1 by decide), if_neg (show ¬ Int32.ofNat 3 = Int32.ofNat 2 by decide)]
      · have C1 := R1.c
        have M1 := R1.mh
        have gk := M1.gj (j := 3) (by decide)
        simp only [f_X12_told, C1.v133, C1.g133_0, o_bind, o_call, z_lit, gk, n_gives C1]
        rw [if_neg (by decide), if_pos (by decide)]
    · refine both.no HP HM W (Int32.ofNat (hs A 4)) (Int32.ofNat 0) ?_ (fun μ1 R1 => ?_)
      · simp only [f_X11_told, f_X11_told_92, C.v0, g5, HH.g4, o_bind, o_call, z_lit, p_ans C, eq_self, if_true]
        rw [if_neg (show ¬ Int32.ofNat 4 = Int32.ofNat 0 by decide), if_neg (show ¬ Int32.ofNat 4 = Int32.ofNat 1 by decide), if_neg (show ¬ Int32.ofNat 4 = Int32.ofNat 2 by decide), if_neg (show ¬ Int32.ofNat 4 = Int32.ofNat 3 by decide)]
      · have C1 := R1.c
        have M1 := R1.mh
        have gk := M1.gj (j := 4) (by decide)
        simp only [f_X12_told, C1.v133, C1.g133_0, o_bind, o_call, z_lit, gk, n_gives C1]
        rw [if_neg (by decide), if_pos (by decide)]
    · refine both.no HP HM W (Int32.ofNat (hs A 5)) (Int32.ofNat 0) ?_ (fun μ1 R1 => ?_)
      · simp only [f_X11_told, f_X11_told_104, C.v0, g5, HH.g5, o_bind, o_call, z_lit, p_ans C, eq_self, if_true]
        rw [if_neg (show ¬ Int32.ofNat 5 = Int32.ofNat 0 by decide), if_neg (show ¬ Int32.ofNat 5 = Int32.ofNat 1 by decide), if_neg (show ¬ Int32.ofNat 5 = Int32.ofNat 2 by decide), if_neg (show ¬ Int32.ofNat 5 = Int32.ofNat 3 by decide), if_neg (show ¬ Int32.ofNat 5 = Int32.ofNat 4 by decide)]
      · have C1 := R1.c
        have M1 := R1.mh
        have gk := M1.gj (j := 5) (by decide)
        simp only [f_X12_told, C1.v133, C1.g133_0, o_bind, o_call, z_lit, gk, n_gives C1]
        rw [if_neg (by decide), if_pos (by decide)]
    · refine both.no HP HM W (hm A) (Int32.ofNat 0) ?_ (fun μ1 R1 => ?_)
      · simp only [f_X11_told, f_X11_told_116, C.v0, g5, HH.g6, o_bind, o_call, z_lit, p_ans C, eq_self, if_true]
        rw [if_neg (show ¬ Int32.ofNat 6 = Int32.ofNat 0 by decide), if_neg (show ¬ Int32.ofNat 6 = Int32.ofNat 1 by decide), if_neg (show ¬ Int32.ofNat 6 = Int32.ofNat 2 by decide), if_neg (show ¬ Int32.ofNat 6 = Int32.ofNat 3 by decide), if_neg (show ¬ Int32.ofNat 6 = Int32.ofNat 4 by decide), if_neg (show ¬ Int32.ofNat 6 = Int32.ofNat 5 by decide)]
      · have C1 := R1.c
        have M1 := R1.mh
        have gk := M1.g6
        simp only [f_X12_told, C1.v133, C1.g133_0, o_bind, o_call, z_lit, gk, n_gives C1]
        rw [if_neg (by decide), if_pos (by decide)]
theorem cs12 {μ : dtM} {w : aW} {f : aF} {A : aH} {z : aZ} (HP : RP μ w f A z) (HM : RM μ f A z) (W : dWF A (zD z)) (x y : Int32) : both (f_X11_door 0 x y) (f_X12_door 133 x y) μ := by
  have C := HP.c
  have HH := HP.ph
  have g5 := HP.g5
  have hnr := HH.nr
  have hnd := HH.nd
  have hnw := HH.nw
  have hnp := HH.np
  have hop := HH.op1
  cases hq : inR x (hs A 1)
  · refine both.no HP HM W (-Int32.ofNat 1) (Int32.ofNat 1) ?_ (fun μ1 R1 => ?_)
    · simp only [f_X11_door, g5, C.v0, HH.rv, HH.hasDoor, hq, p_fail C, o_bind, o_call, z_lit, b0, o_ret0', o_ret1', o_bI, Bool.true_eq_false, Bool.false_eq_true, eq_self, if_true, if_false]
    · have C1 := R1.c
      have M1 := R1.mh
      simp only [f_X12_door, f_X12_door_17, C1.v133, M1.r0, M1.isDoor, hq, n_refuse C1, o_bind, o_call, z_lit, b0, o_ret0', o_ret1', o_bI, Bool.true_eq_false, Bool.false_eq_true, eq_self, if_true, if_false]
  · obtain ⟨d, hd, rfl⟩ := inR_t (by omega) hq
    cases hq2 : inR y 4
    · refine both.no HP HM W (-Int32.ofNat 1) (Int32.ofNat 1) ?_ (fun μ1 R1 => ?_)
      · have ne : ∀ j, j < 4 → ¬ y = Int32.ofNat j := fun j hj => inR_ne hq2 hj (by decide)
        simp only [f_X11_door, f_X11_door_111, g5, C.v0, HH.rv, HH.hasDoor, hq, p_fail C, o_bind, o_call, z_lit, b0, o_ret0', o_ret1', o_bI, Bool.true_eq_false, Bool.false_eq_true, eq_self, if_true, if_false]
        rw [if_neg (ne 0 (by decide)), if_neg (ne 1 (by decide)), if_neg (ne 2 (by decide)), if_neg (ne 3 (by decide))]
      · have C1 := R1.c
        have M1 := R1.mh
        simp only [f_X12_door, f_X12_door_17, C1.v133, M1.isDoor, hq, n_refuse C1, o_bind, o_call, z_lit, b0, o_ret0', o_ret1', o_bI, Bool.true_eq_false, Bool.false_eq_true, eq_self, if_true, if_false]
        rcases z_cases y with hy | ⟨k, hk, rfl⟩
        · rw [if_pos hy]
        · rw [inR_n (by decide) hk] at hq2
          have := of_decide_eq_false hq2
          rw [if_neg (by rw [z_lt0 hk]; exact id), if_neg (by rw [z_le hk (by decide)]; omega)]
    · obtain ⟨k, hk, rfl⟩ := inR_t (by decide) hq2
      have hk4 : k = 0 ∨ k = 1 ∨ k = 2 ∨ k = 3 := by omega
      rcases hk4 with rfl | rfl | rfl | rfl
      · refine both.no HP HM W (Int32.ofNat (ht A 0 d)) (Int32.ofNat 0) ?_ (fun μ1 R1 => ?_)
        · simp only [f_X11_door, f_X11_door_48, g5, C.v0, HH.rv, HH.hasDoor, hq, HH.r9, HH.l0 hd, p_ans C, o_bind, o_call, z_lit, b0, o_ret0', o_ret1', o_bI, Bool.true_eq_false, Bool.false_eq_true, eq_self, if_true, if_false]
        · have C1 := R1.c
          have M1 := R1.mh
          have mv := M1.doorOf (t := 0) (by decide) hd
          simp only [f_X12_door, f_X12_door_48, C1.v133, C1.g133_0, M1.isDoor, hq, mv, n_gives C1, o_bind, o_call, z_lit, b0, o_ret0', o_ret1', o_bI, Bool.true_eq_false, Bool.false_eq_true, eq_self, if_true, if_false]
          rw [if_neg (by decide), if_pos (by decide), if_neg (by decide)]
      · refine both.no HP HM W (Int32.ofNat (ht A 1 d)) (Int32.ofNat 0) ?_ (fun μ1 R1 => ?_)
        · simp only [f_X11_door, f_X11_door_62, g5, C.v0, HH.rv, HH.hasDoor, hq, HH.r10, HH.l1 hd, p_ans C, o_bind, o_call, z_lit, b0, o_ret0', o_ret1', o_bI, Bool.true_eq_false, Bool.false_eq_true, eq_self, if_true, if_false]
          rw [if_neg (show ¬ Int32.ofNat 1 = Int32.ofNat 0 by decide)]
        · have C1 := R1.c
          have M1 := R1.mh
          have mv := M1.doorOf (t := 1) (by decide) hd
          simp only [f_X12_door, f_X12_door_48, C1.v133, C1.g133_0, M1.isDoor, hq, mv, n_gives C1, o_bind, o_call, z_lit, b0, o_ret0', o_ret1', o_bI, Bool.true_eq_false, Bool.false_eq_true, eq_self, if_true, if_false]
          rw [if_neg (by decide), if_pos (by decide), if_neg (by decide)]
      · refine both.no HP HM W (Int32.ofNat (ht A 2 d)) (Int32.ofNat 0) ?_ (fun μ1 R1 => ?_)
        · simp only [f_X11_door, f_X11_door_76, g5, C.v0, HH.rv, HH.hasDoor, hq, HH.r11, HH.l2 hd, p_ans C, o_bind, o_call, z_lit, b0, o_ret0', o_ret1', o_bI, Bool.true_eq_false, Bool.false_eq_true, eq_self, if_true, if_false]
          rw [if_neg (show ¬ Int32.ofNat 2 = Int32.ofNat 0 by decide), if_neg (show ¬ Int32.ofNat 2 = Int32.ofNat 1 by decide)]
        · have C1 := R1.c
          have M1 := R1.mh
          have mv := M1.doorOf (t := 2) (by decide) hd
          simp only [f_X12_door, f_X12_door_48, C1.v133, C1.g133_0, M1.isDoor, hq, mv, n_gives C1, o_bind, o_call, z_lit, b0, o_ret0', o_ret1', o_bI, Bool.true_eq_false, Bool.false_eq_true, eq_self, if_true, if_false]
          rw [if_neg (by decide), if_pos (by decide), if_neg (by decide)]
      · refine both.no HP HM W (Int32.ofNat (hs A 5 / 2 ^ d % 2)) (Int32.ofNat 0) ?_ (fun μ1 R1 => ?_)
        · simp only [f_X11_door, f_X11_door_90, f_X11_door_107, g5, C.v0, HH.rv, HH.hasDoor, hq, HH.isOpen (show d < 32 by omega), p_ans C, o_bind, o_call, z_lit, b0, o_ret0', o_ret1', o_bI, Bool.true_eq_false, Bool.false_eq_true, eq_self, if_true, if_false]
          rw [if_neg (show ¬ Int32.ofNat 3 = Int32.ofNat 0 by decide), if_neg (show ¬ Int32.ofNat 3 = Int32.ofNat 1 by decide), if_neg (show ¬ Int32.ofNat 3 = Int32.ofNat 2 by decide)]
          rw [Nat.testBit_eq_decide_div_mod_eq]
          have two : hs A 5 / 2 ^ d % 2 = 0 ∨ hs A 5 / 2 ^ d % 2 = 1 := by omega
          rcases two with t2 | t2
          · rw [t2, if_pos (by decide)]
          · rw [t2, if_neg (by decide)]
        · have C1 := R1.c
          have M1 := R1.mh
          have mv := M1.gj (j := 5) (by decide)
          simp only [f_X12_door, f_X12_door_48, C1.v133, C1.g133_0, M1.isDoor, hq, mv, n_gives C1, o_bind, o_call, z_lit, b0, o_ret0', o_ret1', o_bI, Bool.true_eq_false, Bool.false_eq_true, eq_self, if_true, if_false]
          rw [if_neg (by decide), if_pos (by decide), z_31 (show d < 32 by omega), z_shr (show hs A 5 < 2147483648 by omega) (show d < 32 by omega), z_and1]
theorem cs15 {μ : dtM} {w : aW} {f : aF} {A : aH} {z : aZ} (HP : RP μ w f A z) (HM : RM μ f A z) (W : dWF A (zD z)) (x y : Int32) : both (f_X11_person 0 x y) (f_X12_person 133 x y) μ := by
  have C := HP.c
  have HH := HP.ph
  have g5 := HP.g5
  have hnr := HH.nr
  have hnd := HH.nd
  have hnw := HH.nw
  have hnp := HH.np
  have hop := HH.op1
  cases hq : inR x (hs A 3)
  · refine both.no HP HM W (-Int32.ofNat 1) (Int32.ofNat 1) ?_ (fun μ1 R1 => ?_)
    · simp only [f_X11_person, g5, C.v0, HH.rv, HH.hasPerson, hq, p_fail C, o_bind, o_call, z_lit, b0, o_ret0', o_ret1', o_bI, Bool.true_eq_false, Bool.false_eq_true, eq_self, if_true, if_false]
    · have C1 := R1.c
      have M1 := R1.mh
      simp only [f_X12_person, f_X12_person_17, C1.v133, M1.r0, M1.isPerson, hq, n_refuse C1, o_bind, o_call, z_lit, b0, o_ret0', o_ret1', o_bI, Bool.true_eq_false, Bool.false_eq_true, eq_self, if_true, if_false]
  · obtain ⟨d, hd, rfl⟩ := inR_t (by omega) hq
    cases hq2 : inR y 4
    · refine both.no HP HM W (-Int32.ofNat 1) (Int32.ofNat 1) ?_ (fun μ1 R1 => ?_)
      · have ne : ∀ j, j < 4 → ¬ y = Int32.ofNat j := fun j hj => inR_ne hq2 hj (by decide)
        simp only [f_X11_person, f_X11_person_104, g5, C.v0, HH.rv, HH.hasPerson, hq, p_fail C, o_bind, o_call, z_lit, b0, o_ret0', o_ret1', o_bI, Bool.true_eq_false, Bool.false_eq_true, eq_self, if_true, if_false]
        rw [if_neg (ne 0 (by decide)), if_neg (ne 1 (by decide)), if_neg (ne 2 (by decide)), if_neg (ne 3 (by decide))]
      · have C1 := R1.c
        have M1 := R1.mh
        simp only [f_X12_person, f_X12_person_17, C1.v133, M1.isPerson, hq, n_refuse C1, o_bind, o_call, z_lit, b0, o_ret0', o_ret1', o_bI, Bool.true_eq_false, Bool.false_eq_true, eq_self, if_true, if_false]
        rcases z_cases y with hy | ⟨k, hk, rfl⟩
        · rw [if_pos hy]
        · rw [inR_n (by decide) hk] at hq2
          have := of_decide_eq_false hq2
          rw [if_neg (by rw [z_lt0 hk]; exact id), if_neg (by rw [z_le hk (by decide)]; omega)]
    · obtain ⟨k, hk, rfl⟩ := inR_t (by decide) hq2
      have hk4 : k = 0 ∨ k = 1 ∨ k = 2 ∨ k = 3 := by omega
      rcases hk4 with rfl | rfl | rfl | rfl
      · refine both.no HP HM W (Int32.ofNat (ht A 8 d)) (Int32.ofNat 0) ?_ (fun μ1 R1 => ?_)
        · simp only [f_X11_person, f_X11_person_48, g5, C.v0, HH.rv, HH.hasPerson, hq, HH.r14, HH.l8 hd, p_ans C, o_bind, o_call, z_lit, b0, o_ret0', o_ret1', o_bI, Bool.true_eq_false, Bool.false_eq_true, eq_self, if_true, if_false]
        · have C1 := R1.c
          have M1 := R1.mh
          have mv := M1.personOf (k := 0) (by decide) hd
          simp only [f_X12_person, C1.v133, C1.g133_0, M1.isPerson, hq, mv, n_gives C1, o_bind, o_call, z_lit, b0, o_ret0', o_ret1', o_bI, Bool.true_eq_false, Bool.false_eq_true, eq_self, if_true, if_false]
          rw [if_neg (by decide), if_pos (by decide)]
      · refine both.no HP HM W (Int32.ofNat (ht A 9 d)) (Int32.ofNat 0) ?_ (fun μ1 R1 => ?_)
        · simp only [f_X11_person, f_X11_person_62, g5, C.v0, HH.rv, HH.hasPerson, hq, HH.r15, HH.l9 hd, p_ans C, o_bind, o_call, z_lit, b0, o_ret0', o_ret1', o_bI, Bool.true_eq_false, Bool.false_eq_true, eq_self, if_true, if_false]
          rw [if_neg (show ¬ Int32.ofNat 1 = Int32.ofNat 0 by decide)]
        · have C1 := R1.c
          have M1 := R1.mh
          have mv := M1.personOf (k := 1) (by decide) hd
          simp only [f_X12_person, C1.v133, C1.g133_0, M1.isPerson, hq, mv, n_gives C1, o_bind, o_call, z_lit, b0, o_ret0', o_ret1', o_bI, Bool.true_eq_false, Bool.false_eq_true, eq_self, if_true, if_false]
          rw [if_neg (by decide), if_pos (by decide)]
      · refine both.no HP HM W (Int32.ofNat (ht A 10 d)) (Int32.ofNat 0) ?_ (fun μ1 R1 => ?_)
        · simp only [f_X11_person, f_X11_person_76, g5, C.v0, HH.rv, HH.hasPerson, hq, HH.r16, HH.l10 hd, p_ans C, o_bind, o_call, z_lit, b0, o_ret0', o_ret1', o_bI, Bool.true_eq_false, Bool.false_eq_true, eq_self, if_true, if_false]
          rw [if_neg (show ¬ Int32.ofNat 2 = Int32.ofNat 0 by decide), if_neg (show ¬ Int32.ofNat 2 = Int32.ofNat 1 by decide)]
        · have C1 := R1.c
          have M1 := R1.mh
          have mv := M1.personOf (k := 2) (by decide) hd
          simp only [f_X12_person, C1.v133, C1.g133_0, M1.isPerson, hq, mv, n_gives C1, o_bind, o_call, z_lit, b0, o_ret0', o_ret1', o_bI, Bool.true_eq_false, Bool.false_eq_true, eq_self, if_true, if_false]
          rw [if_neg (by decide), if_pos (by decide)]
      · refine both.no HP HM W (Int32.ofNat (ht A 11 d)) (Int32.ofNat 0) ?_ (fun μ1 R1 => ?_)
        · simp only [f_X11_person, f_X11_person_90, g5, C.v0, HH.rv, HH.hasPerson, hq, HH.r17, HH.l11 hd, p_ans C, o_bind, o_call, z_lit, b0, o_ret0', o_ret1', o_bI, Bool.true_eq_false, Bool.false_eq_true, eq_self, if_true, if_false]
          rw [if_neg (show ¬ Int32.ofNat 3 = Int32.ofNat 0 by decide), if_neg (show ¬ Int32.ofNat 3 = Int32.ofNat 1 by decide), if_neg (show ¬ Int32.ofNat 3 = Int32.ofNat 2 by decide)]
        · have C1 := R1.c
          have M1 := R1.mh
          have mv := M1.personOf (k := 3) (by decide) hd
          simp only [f_X12_person, C1.v133, C1.g133_0, M1.isPerson, hq, mv, n_gives C1, o_bind, o_call, z_lit, b0, o_ret0', o_ret1', o_bI, Bool.true_eq_false, Bool.false_eq_true, eq_self, if_true, if_false]
          rw [if_neg (by decide), if_pos (by decide)]
