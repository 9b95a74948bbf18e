/-! PURE 72: a run of the days, the model -/
theorem mKd_22 {t : Nat} : mKd 22 t = 21 := rfl
theorem mKd_i {a t : Nat} (h : a = 4 ∨ a = 15 ∨ a = 16 ∨ a = 17 ∨ a = 18 ∨ a = 19 ∨ a = 21 ∨ a = 22 ∨ a = 23) : mKd a t < 2000 ∧ (mKd a t = 21 ↔ a = 22) ∧ (mKd a t = 20 ↔ a = 21) ∧ (mKd a t = 22 ↔ a = 23) ∧ (1900 ≤ mKd a t ↔ a = 19) := by
  rcases h with rfl | rfl | rfl | rfl | rfl | rfl | rfl | rfl | rfl
  · exact (by decide : mKd 4 0 < 2000 ∧ (mKd 4 0 = 21 ↔ 4 = 22) ∧ (mKd 4 0 = 20 ↔ 4 = 21) ∧ (mKd 4 0 = 22 ↔ 4 = 23) ∧ (1900 ≤ mKd 4 0 ↔ 4 = 19))
  · exact (by decide : mKd 15 0 < 2000 ∧ (mKd 15 0 = 21 ↔ 15 = 22) ∧ (mKd 15 0 = 20 ↔ 15 = 21) ∧ (mKd 15 0 = 22 ↔ 15 = 23) ∧ (1900 ≤ mKd 15 0 ↔ 15 = 19))
  · exact (by decide : mKd 16 0 < 2000 ∧ (mKd 16 0 = 21 ↔ 16 = 22) ∧ (mKd 16 0 = 20 ↔ 16 = 21) ∧ (mKd 16 0 = 22 ↔ 16 = 23) ∧ (1900 ≤ mKd 16 0 ↔ 16 = 19))
  · exact (by decide : mKd 17 0 < 2000 ∧ (mKd 17 0 = 21 ↔ 17 = 22) ∧ (mKd 17 0 = 20 ↔ 17 = 21) ∧ (mKd 17 0 = 22 ↔ 17 = 23) ∧ (1900 ≤ mKd 17 0 ↔ 17 = 19))
  · exact (by decide : mKd 18 0 < 2000 ∧ (mKd 18 0 = 21 ↔ 18 = 22) ∧ (mKd 18 0 = 20 ↔ 18 = 21) ∧ (mKd 18 0 = 22 ↔ 18 = 23) ∧ (1900 ≤ mKd 18 0 ↔ 18 = 19))
  · have e : mKd 19 t = 1912 ∨ mKd 19 t = 1906 ∨ mKd 19 t = 1923 := by
      unfold mKd
      by_cases t1 : t = 12
      · simp [t1]
      · by_cases t2 : t = 4
        · simp [t2]
        · simp [t1, t2]
    omega
  · exact (by decide : mKd 21 0 < 2000 ∧ (mKd 21 0 = 21 ↔ 21 = 22) ∧ (mKd 21 0 = 20 ↔ 21 = 21) ∧ (mKd 21 0 = 22 ↔ 21 = 23) ∧ (1900 ≤ mKd 21 0 ↔ 21 = 19))
  · exact (by decide : mKd 22 0 < 2000 ∧ (mKd 22 0 = 21 ↔ 22 = 22) ∧ (mKd 22 0 = 20 ↔ 22 = 21) ∧ (mKd 22 0 = 22 ↔ 22 = 23) ∧ (1900 ≤ mKd 22 0 ↔ 22 = 19))
  · exact (by decide : mKd 23 0 < 2000 ∧ (mKd 23 0 = 21 ↔ 23 = 22) ∧ (mKd 23 0 = 20 ↔ 23 = 21) ∧ (mKd 23 0 = 22 ↔ 23 = 23) ∧ (1900 ≤ mKd 23 0 ↔ 23 = 19))
def eM (D : aD) (l : Nat → Nat) (k : Nat) : Nat := if k < dLen D ∧ dd D 0 k = 22 then (if dd D 5 k + 1 = k then l (dd D 5 k) else 0) + (61 - k) else 0
theorem rN_end {D : aD} {m k : Nat} {A : aH} {Q : aQ} (h : dLen D ≤ k) : rN D m A Q k = (A, Q, 0) := by
  cases m with
  | zero => rfl
  | succ m => rw [rN, if_pos h]
theorem MU.loo {μ : dtM} {A : aH} {Q : aQ} (H : MU μ A Q) {k v : Nat} (hv : v ≤ 99) : MU (dtSI μ 151 k (Int32.ofNat (v - 1))) A (qLoop Q (dtUp (ql Q) k v)) := by
  obtain ⟨C, M, ⟨a1, a2⟩, ⟨b0, b1, b2, b3, b4⟩, L⟩ := H
  have Fk : Fr (fun a b => a = 151 ∧ b = k) μ (dtSI μ 151 k (Int32.ofNat (v - 1))) := Fr.SI ⟨rfl, rfl⟩
  refine ⟨C.kept Fk, M.keptAt Fk (by intros; omega) (by intros; omega), ⟨?_, ?_⟩, ⟨?_, ?_, ?_, ?_, ?_⟩, fun j hj => ?_⟩
  · rw [Fk.i (by omega)]; exact a1
  · rw [Fk.i (by omega)]; exact a2
  · rw [Fk.i (by omega)]; exact b0
  · rw [Fk.i (by omega)]; exact b1
  · rw [Fk.i (by omega)]; exact b2
  · rw [Fk.i (by omega)]; exact b3
  · rw [Fk.i (by omega)]; exact b4
  · show dtUp (ql Q) k v j ≤ 99 ∧ _ = Int32.ofNat (dtUp (ql Q) k v j - 1)
    unfold dtUp
    by_cases e : j = k
    · rw [if_pos e, m_I_SI, if_pos ⟨rfl, e⟩]; exact ⟨hv, rfl⟩
    · rw [if_neg e, m_I_SI, if_neg (fun y => e y.2)]; exact L j hj
theorem up_same {l : Nat → Nat} {k : Nat} : dtUp l k (l k) = l := by
  funext j
  unfold dtUp
  by_cases e : j = k
  · rw [if_pos e, e]
  · rw [if_neg e]
theorem MD.ru {μ μ' : dtM} {A : aH} {D : aD} (HD : MD μ 0 D) (W : dWF A D) (F : Fr Mru μ μ') : MD μ' 0 D := HD.kept W F (fun j h x => by
  have y : (134 = 134 ∧ (j < 136 ∧ ¬ j = 7)) ∨ 134 = 142 ∨ 134 = 152 ∨ 134 = 151 ∨ (134 = 133 ∧ (j = 34 ∨ j = 35)) := x
  omega)
theorem be2 {D : aD} (h1 : D.1 = 1) : ∀ (n f m k : Nat) (A : aH) (Q : aQ) (μ : dtM), MU μ A Q → MD μ 0 D → dWF A D → k ≤ dLen D → eM D (ql Q) k ≤ n → n < f → n ≤ m → ∃ μ' k' l' m', f_X12_behindEnds_2 f 133 (Int32.ofNat k) μ = some (Int32.ofNat k', μ') ∧ Fr Mru μ μ' ∧ MU μ' A (qLoop Q l') ∧ k' ≤ dLen D ∧ (dLen D ≤ k' ∨ ¬ dd D 0 k' = 22) ∧ rN D m A Q k = rN D m' A (qLoop Q l') k' ∧ m ≤ m' + n := by
  intro n
  induction n with
  | zero =>
    intro f m k A Q μ H HD W hk he hf hm
    cases f with
    | zero => omega
    | succ f =>
      have h60 := (W.2 h1).1
      have C := H.c
      have ne : dLen D ≤ k ∨ ¬ dd D 0 k = 22 := by
        unfold eM at he
        by_cases q : k < dLen D ∧ dd D 0 k = 22
        · rw [if_pos q] at he; omega
        · omega
      have g7 : opLI 1 μ 134 (7 : Int32) = some (Int32.ofNat (dLen D)) := by
        have := (HD.2 h1).1
        rw [show (7 : Int32) = Int32.ofNat 7 from rfl, o_LI C.s134 (by decide) (by decide)]; exact congrArg some this
      refine ⟨μ, k, ql Q, m, ?_, Fr.rf, H, hk, ne, rfl, by omega⟩
      rw [f_X12_behindEnds_2, C.g133_0, o_bind, g7, o_bind]
      by_cases hl : dLen D ≤ k
      · rw [if_pos (show Int32.ofNat (dLen D) ≤ Int32.ofNat k by rw [z_le (by omega) (by omega)]; exact hl), f_X12_behindEnds_118]
      · have hk' : k < dLen D := by omega
        obtain ⟨L, E⟩ := HD.g C h1 h60 hk'
        have l0 : opLI 1 μ 134 (Int32.ofNat (136 + 6 * k)) = some (Int32.ofNat (mKd (dd D 0 k) (dd D 4 k))) := (L 0 (by decide)).trans (congrArg some E.1)
        have mi := mKd_i (t := dd D 4 k) ((W.2 h1).2 k hk').1
        rw [if_neg (show ¬ Int32.ofNat (dLen D) ≤ Int32.ofNat k by rw [z_le (by omega) (by omega)]; exact hl), o_bind, show (136 : Int32) = Int32.ofNat 136 from rfl, show (6 : Int32) = Int32.ofNat 6 from rfl, z_mul, z_add, l0, o_bind, if_neg (show ¬ Int32.ofNat (mKd (dd D 0 k) (dd D 4 k)) = (21 : Int32) by rw [show (21 : Int32) = Int32.ofNat 21 from rfl, z_eq (by omega) (by decide)]; omega), f_X12_behindEnds_118]
  | succ n ih =>
    intro f m k A Q μ H HD W hk he hf hm
    cases f with
    | zero => omega
    | succ f =>
      have h60 := (W.2 h1).1
      have C := H.c
      have g7 : opLI 1 μ 134 (7 : Int32) = some (Int32.ofNat (dLen D)) := by
        have := (HD.2 h1).1
        rw [show (7 : Int32) = Int32.ofNat 7 from rfl, o_LI C.s134 (by decide) (by decide)]; exact congrArg some this
      have st : f_X12_behindEnds_2 (f + 1) 133 (Int32.ofNat k) μ = if Int32.ofNat (dLen D) ≤ Int32.ofNat k then (f_X12_behindEnds_118 (Int32.ofNat k) μ) else ((opLI 1 μ 134 ((136 : Int32) + ((6 : Int32) * (Int32.ofNat k)))).bind fun x10 => if x10 = (21 : Int32) then ((opGR 12 0 μ 133).bind fun x15 => (opLI 1 μ x15 (((136 : Int32) + ((6 : Int32) * (Int32.ofNat k))) + (4 : Int32))).bind fun x17 => (opGR 12 0 μ 133).bind fun x19 => (opLI 1 μ x19 ((136 : Int32) + ((6 : Int32) * x17))).bind fun x21 => if x21 = (20 : Int32) then ((opGR 12 36 μ 133).bind fun x26 => (opLI 1 μ x26 x17).bind fun x28 => if x28 ≤ 0 then (f_X12_behindEnds_78 (f_X12_behindEnds_2 f) 133 (Int32.ofNat k) x17 μ) else (f_X12_behindEnds_79 (f_X12_behindEnds_2 f) 133 (Int32.ofNat k) x17 (1 : Int32) μ)) else (f_X12_behindEnds_78 (f_X12_behindEnds_2 f) 133 (Int32.ofNat k) x17 μ)) else (f_X12_behindEnds_118 (Int32.ofNat k) μ)) := by
        rw [f_X12_behindEnds_2, C.g133_0, o_bind, g7, o_bind, o_bind]
      rw [st]
      by_cases hl : dLen D ≤ k
      · refine ⟨μ, k, ql Q, m, ?_, Fr.rf, H, hk, Or.inl hl, rfl, by omega⟩
        rw [if_pos (show Int32.ofNat (dLen D) ≤ Int32.ofNat k by rw [z_le (by omega) (by omega)]; exact hl), f_X12_behindEnds_118]
      · have hk' : k < dLen D := by omega
        obtain ⟨L, E⟩ := HD.g C h1 h60 hk'
        have dk := (W.2 h1).2 k hk'
        have l0 : opLI 1 μ 134 (Int32.ofNat (136 + 6 * k)) = some (Int32.ofNat (mKd (dd D 0 k) (dd D 4 k))) := (L 0 (by decide)).trans (congrArg some E.1)
        have mi := mKd_i (t := dd D 4 k) dk.1
        rw [if_neg (show ¬ Int32.ofNat (dLen D) ≤ Int32.ofNat k by rw [z_le (by omega) (by omega)]; exact hl), show (136 : Int32) = Int32.ofNat 136 from rfl, show (6 : Int32) = Int32.ofNat 6 from rfl, z_mul, z_add, l0, o_bind]
        by_cases q22 : dd D 0 k = 22
        · have c7 := dk.2.2.2.2.2.2.2 q22
          have ho : dd D 5 k < dLen D := by omega
          obtain ⟨Lo, Eo⟩ := HD.g C h1 h60 ho
          have mo := mKd_i (t := dd D 4 (dd D 5 k)) ((W.2 h1).2 _ ho).1
          have l4 : opLI 1 μ 134 (Int32.ofNat (136 + 6 * k + 4)) = some (Int32.ofNat (dd D 5 k)) := (L 4 (by decide)).trans (congrArg some (E.2.2.2.2.2.2 (Or.inr (Or.inr q22))))
          have lo : opLI 1 μ 134 (Int32.ofNat (136 + 6 * dd D 5 k)) = some (Int32.ofNat (mKd (dd D 0 (dd D 5 k)) (dd D 4 (dd D 5 k)))) := (Lo 0 (by decide)).trans (congrArg some Eo.1)
          have LL := H.2.2.2.2 (dd D 5 k) (by omega)
          have ll : opLI 1 μ 151 (Int32.ofNat (dd D 5 k)) = some (Int32.ofNat (ql Q (dd D 5 k) - 1)) := by rw [o_LI C.s151 (show dd D 5 k < 80 by omega) (by decide), LL.2]
          rw [if_pos (show Int32.ofNat (mKd (dd D 0 k) (dd D 4 k)) = (21 : Int32) by rw [q22]; rfl), C.g133_0, o_bind, show (4 : Int32) = Int32.ofNat 4 from rfl, z_add, l4, o_bind, o_bind, z_mul, z_add, lo, o_bind]
          obtain ⟨m1, rfl⟩ : ∃ m1, m = m1 + 1 := ⟨m - 1, by omega⟩
          have rn : rN D (m1 + 1) A Q k = rN D m1 A (qLoop Q (bE D (ql Q) k).1) (bE D (ql Q) k).2 := by
            rw [rN, if_neg hl, if_pos q22]
          have eo : eM D (ql Q) k = (if dd D 5 k + 1 = k then ql Q (dd D 5 k) else 0) + (61 - k) := if_pos ⟨hk', q22⟩
          by_cases q : dd D 0 (dd D 5 k) = 21 ∧ 1 < ql Q (dd D 5 k)
          · -- once more
            have H2 := H.loo (k := dd D 5 k) (v := ql Q (dd D 5 k) - 1) (by omega)
            have eb : bE D (ql Q) k = (dtUp (ql Q) (dd D 5 k) (ql Q (dd D 5 k) - 1), dd D 5 k + 1) := if_pos q
            have F2 : Fr Mru μ (dtSI μ 151 (dd D 5 k) (Int32.ofNat (ql Q (dd D 5 k) - 1 - 1))) := Fr.SI (Or.inr (Or.inr (Or.inr (Or.inl rfl))))
            have en : eM D (dtUp (ql Q) (dd D 5 k) (ql Q (dd D 5 k) - 1)) (dd D 5 k + 1) ≤ n := by
              by_cases e : dd D 5 k + 1 = k
              · rw [if_pos e] at eo
                have : eM D (dtUp (ql Q) (dd D 5 k) (ql Q (dd D 5 k) - 1)) (dd D 5 k + 1) = ql Q (dd D 5 k) - 1 + (61 - k) := by
                  rw [e]
                  unfold eM
                  rw [if_pos ⟨hk', q22⟩, if_pos e]
                  unfold dtUp
                  rw [if_pos rfl]
                rw [this]; omega
              · have : eM D (dtUp (ql Q) (dd D 5 k) (ql Q (dd D 5 k) - 1)) (dd D 5 k + 1) = 0 := if_neg (fun y => e (c7.2.2 y.2).symm)
                rw [this]; exact Nat.zero_le _
            obtain ⟨μ', k', l', m', a1, a2, a3, a4, a5, a6, a7⟩ := ih f m1 (dd D 5 k + 1) A _ _ H2 (HD.ru W F2) W (by omega) en (by omega) (by omega)
            refine ⟨μ', k', l', m', ?_, F2.tr a2, a3, a4, a5, ?_, by omega⟩
            · rw [if_pos (show Int32.ofNat (mKd (dd D 0 (dd D 5 k)) (dd D 4 (dd D 5 k))) = (20 : Int32) by rw [mo.2.2.1.mpr q.1]; rfl), C.g133_36, o_bind, ll, o_bind, if_neg (show ¬ Int32.ofNat (ql Q (dd D 5 k) - 1) ≤ 0 by rw [show (0 : Int32) = Int32.ofNat 0 from rfl, z_le (by omega) (by decide)]; omega), f_X12_behindEnds_79, C.g133_36, o_bind, ll, o_bind, if_neg (by decide), f_X12_behindEnds_98, show (1 : Int32) = Int32.ofNat 1 from rfl, z_sub (by omega), o_SI C.s151 (show dd D 5 k < 80 by omega) (by decide), o_bind, if_neg (by decide), f_X12_behindEnds_114, z_add, a1]
            · rw [rn, eb]; exact a6
          · -- on
            have eb : bE D (ql Q) k = (ql Q, k + 1) := if_neg q
            have H2 := H.loo (k := dd D 5 k) (v := ql Q (dd D 5 k)) LL.1
            rw [up_same] at H2
            have F2 : Fr Mru μ (dtSI μ 151 (dd D 5 k) (Int32.ofNat (ql Q (dd D 5 k) - 1))) := Fr.SI (Or.inr (Or.inr (Or.inr (Or.inl rfl))))
            have en : eM D (ql (qLoop Q (ql Q))) (k + 1) ≤ n := by
              show eM D (ql Q) (k + 1) ≤ n
              unfold eM
              by_cases e : k + 1 < dLen D ∧ dd D 0 (k + 1) = 22
              · rw [if_pos e]
                have c7' := ((W.2 h1).2 (k + 1) e.1).2.2.2.2.2.2.2 e.2
                have np : ¬ dd D 5 (k + 1) + 1 = k + 1 := fun y => by
                  have y2 : dd D 5 (k + 1) = k := by omega
                  rw [y2] at c7'
                  omega
                rw [if_neg np]
                omega
              · rw [if_neg e]; exact Nat.zero_le _
            obtain ⟨μ', k', l', m', a1, a2, a3, a4, a5, a6, a7⟩ := ih f m1 (k + 1) A _ _ H2 (HD.ru W F2) W (by omega) en (by omega) (by omega)
            refine ⟨μ', k', l', m', ?_, F2.tr a2, a3, a4, a5, ?_, by omega⟩
            · have e78 : f_X12_behindEnds_78 (f_X12_behindEnds_2 f) 133 (Int32.ofNat k) (Int32.ofNat (dd D 5 k)) μ = some (Int32.ofNat k', μ') := by
                rw [f_X12_behindEnds_78, f_X12_behindEnds_79, C.g133_36, o_bind, ll, o_bind, if_pos (by decide), f_X12_behindEnds_98, show (0 : Int32) = Int32.ofNat 0 from rfl, z_sub (Nat.zero_le _), Nat.sub_zero, o_SI C.s151 (show dd D 5 k < 80 by omega) (by decide), o_bind, if_pos (by decide), f_X12_behindEnds_114, show (1 : Int32) = Int32.ofNat 1 from rfl, z_add, a1]
              by_cases q21 : dd D 0 (dd D 5 k) = 21
              · rw [if_pos (show Int32.ofNat (mKd (dd D 0 (dd D 5 k)) (dd D 4 (dd D 5 k))) = (20 : Int32) by rw [mo.2.2.1.mpr q21]; rfl), C.g133_36, o_bind, ll, o_bind, if_pos (show Int32.ofNat (ql Q (dd D 5 k) - 1) ≤ 0 by rw [show (0 : Int32) = Int32.ofNat 0 from rfl, z_le (by omega) (by decide)]; omega), e78]
              · rw [if_neg (show ¬ Int32.ofNat (mKd (dd D 0 (dd D 5 k)) (dd D 4 (dd D 5 k))) = (20 : Int32) by rw [show (20 : Int32) = Int32.ofNat 20 from rfl, z_eq (by omega) (by decide)]; exact fun y => q21 (mo.2.2.1.mp y)), e78]
            · rw [rn, eb]; exact a6
        · refine ⟨μ, k, ql Q, m, ?_, Fr.rf, H, hk, Or.inr q22, rfl, by omega⟩
          rw [if_neg (show ¬ Int32.ofNat (mKd (dd D 0 k) (dd D 4 k)) = (21 : Int32) by rw [show (21 : Int32) = Int32.ofNat 21 from rfl, z_eq (by omega) (by decide)]; exact fun y => q22 (mi.2.1.mp y)), f_X12_behindEnds_118]
theorem n_ends {D : aD} (h1 : D.1 = 1) {m k : Nat} {A : aH} {Q : aQ} {μ : dtM} (H : MU μ A Q) (HD : MD μ 0 D) (W : dWF A D) (hk : k ≤ dLen D) (hm : 160 ≤ m) : ∃ μ' k' l' m', f_X12_behindEnds 133 (Int32.ofNat k) μ = some (Int32.ofNat k', μ') ∧ Fr Mru μ μ' ∧ MU μ' A (qLoop Q l') ∧ k' ≤ dLen D ∧ (dLen D ≤ k' ∨ ¬ dd D 0 k' = 22) ∧ rN D m A Q k = rN D m' A (qLoop Q l') k' ∧ m ≤ m' + 160 := by
  have he : eM D (ql Q) k ≤ 160 := by
    unfold eM
    by_cases e : k < dLen D ∧ dd D 0 k = 22
    · rw [if_pos e]
      have c7 := ((W.2 h1).2 k e.1).2.2.2.2.2.2.2 e.2
      have h60 := (W.2 h1).1
      have LL := (H.2.2.2.2 (dd D 5 k) (by omega)).1
      by_cases x : dd D 5 k + 1 = k
      · rw [if_pos x]; omega
      · rw [if_neg x]; omega
    · rw [if_neg e]; exact Nat.zero_le _
  rw [f_X12_behindEnds]
  exact be2 h1 160 dtFuel m k A Q μ H HD W hk he (dtFuel_gt (by decide)) hm
def liEnd (μ μ' : dtM) (D : aD) (r : aH × aQ × Nat) : Prop := Fr Mru μ μ' ∧ MH μ' 0 0 r.1 ∧ dtI μ' 133 35 = Int32.ofNat (qn r.2.1) ∧ (dtI μ' 152 0 = Int32.ofNat (qm r.2.1) ∧ dtI μ' 152 1 = Int32.ofNat (qk r.2.1) ∧ dtI μ' 152 2 = Int32.ofNat (qc r.2.1) ∧ dtI μ' 152 3 = Int32.ofNat (qp r.2.1) ∧ dtI μ' 152 4 = Int32.ofNat r.2.2) ∧ ML μ' (ql r.2.1)
theorem liEnd.tr {μ μ1 μ' : dtM} {D : aD} {r : aH × aQ × Nat} (F : Fr Mru μ μ1) (E : liEnd μ1 μ' D r) : liEnd μ μ' D r := ⟨F.tr E.1, E.2⟩
theorem liEnd.of {μ : dtM} {D : aD} {A : aH} {Q : aQ} (H : MU μ A Q) : liEnd μ μ D (A, Q, 0) := ⟨Fr.rf, H.2.1, H.2.2.1.2, H.2.2.2.1, H.2.2.2.2⟩
theorem li32 {D : aD} (h1 : D.1 = 1) : ∀ (n f m k : Nat) (A : aH) (Q : aQ) (μ : dtM), MU μ A Q → MD μ 0 D → dWF A D → qOK Q → k ≤ dLen D → (dLen D ≤ k ∨ ¬ dd D 0 k = 22) → 301 ≤ qn Q + n → n < f → 162 * n ≤ m → ∃ μ', f_X12_lives_32 f 133 (Int32.ofNat k) μ = some μ' ∧ liEnd μ μ' D (rN D m A Q k) := by
  intro n
  induction n with
  | zero =>
    intro f m k A Q μ H HD W q hk hne hn hf hm
    have := q.2.2
    omega
  | succ n ih =>
    intro f m k A Q μ H HD W q hk hne hn hf hm
    cases f with
    | zero => omega
    | succ f =>
      have h60 := (W.2 h1).1
      have q3 := q.2.2
      have C := H.c
      have g7 : opLI 1 μ 134 (7 : Int32) = some (Int32.ofNat (dLen D)) := by
        have := (HD.2 h1).1
        rw [show (7 : Int32) = Int32.ofNat 7 from rfl, o_LI C.s134 (by decide) (by decide)]; exact congrArg some this
      by_cases hl : dLen D ≤ k
      · refine ⟨μ, ?_, ?_⟩
        · rw [f_X12_lives_32, C.g133_0, o_bind, g7, o_bind, if_pos (show Int32.ofNat (dLen D) ≤ Int32.ofNat k by rw [z_le (by omega) (by omega)]; exact hl)]
        · rw [rN_end hl]; exact liEnd.of H
      · have hk' : k < dLen D := by omega
        have q22 : ¬ dd D 0 k = 22 := hne.resolve_left hl
        obtain ⟨m1, rfl⟩ : ∃ m1, m = m1 + 1 := ⟨m - 1, by omega⟩
        rw [f_X12_lives_32, C.g133_0, o_bind, g7, o_bind, if_neg (show ¬ Int32.ofNat (dLen D) ≤ Int32.ofNat k by rw [z_le (by omega) (by omega)]; exact hl), o_GI C.s133, H.2.2.1.2, o_bind]
        rw [rN, if_neg hl, if_neg q22]
        by_cases q300 : 300 ≤ qn Q
        · rw [if_pos q300, if_pos (show Int32.ofNat (qn Q) = (300 : Int32) by rw [show qn Q = 300 by omega]; rfl)]
          have F4 : Fr (fun a b => a = 152 ∧ b = 4) μ (dtSI μ 152 4 (Int32.ofNat 1)) := Fr.SI ⟨rfl, rfl⟩
          obtain ⟨_, M, ⟨a1, a2⟩, ⟨b0, b1, b2, b3, b4⟩, LL⟩ := H
          refine ⟨dtSI μ 152 4 (Int32.ofNat 1), ?_, F4.wide (fun a b x => Or.inr (Or.inr (Or.inl x.1))), M.keptAt F4 (by intros; omega) (by intros; omega), ?_, ⟨?_, ?_, ?_, ?_, ?_⟩, LL.kept F4 (by intros; omega)⟩
          · rw [C.g133_37, o_bind, show (4 : Int32) = Int32.ofNat 4 from rfl, show (1 : Int32) = Int32.ofNat 1 from rfl, o_SI C.s152 (by decide) (by decide), o_bind]
          · rw [F4.i (by omega)]; exact a2
          · rw [F4.i (by omega)]; exact b0
          · rw [F4.i (by omega)]; exact b1
          · rw [F4.i (by omega)]; exact b2
          · rw [F4.i (by omega)]; exact b3
          · rw [m_I_SI, if_pos ⟨rfl, rfl⟩]
        · rw [if_neg q300, if_neg (show ¬ Int32.ofNat (qn Q) = (300 : Int32) by rw [show (300 : Int32) = Int32.ofNat 300 from rfl, z_eq (by omega) (by decide)]; omega), o_bind, o_bind, show (136 : Int32) = Int32.ofNat 136 from rfl, show (6 : Int32) = Int32.ofNat 6 from rfl, z_mul, z_add, show (1 : Int32) = Int32.ofNat 1 from rfl, z_add, o_PI C.s133, o_bind]
          have Fd : Fr (fun a b => a = 133 ∧ b = 35) μ (dtSI μ 133 35 (Int32.ofNat (qn Q + 1))) := Fr.SI ⟨rfl, rfl⟩
          have Fdx : Fr Mru μ (dtSI μ 133 35 (Int32.ofNat (qn Q + 1))) := Fd.wide (fun a b x => Or.inr (Or.inr (Or.inr (Or.inr ⟨x.1, Or.inr x.2⟩))))
          have Hd : MU (dtSI μ 133 35 (Int32.ofNat (qn Q + 1))) A (qDone Q) := by
            obtain ⟨_, M, ⟨a1, a2⟩, ⟨b0, b1, b2, b3, b4⟩, LL⟩ := H
            refine ⟨C.kept Fd, M.keptAt Fd (by intros; omega) (by intros; omega), ⟨?_, ?_⟩, ⟨?_, ?_, ?_, ?_, ?_⟩, LL.kept Fd (by intros; omega)⟩
            · rw [Fd.i (by omega)]; exact a1
            · rw [m_I_SI, if_pos ⟨rfl, rfl⟩]; rfl
            · rw [Fd.i (by omega)]; exact b0
            · rw [Fd.i (by omega)]; exact b1
            · rw [Fd.i (by omega)]; exact b2
            · rw [Fd.i (by omega)]; exact b3
            · rw [Fd.i (by omega)]; exact b4
          have Dd := HD.ru W Fdx
          have Cd := Hd.c
          obtain ⟨L, E⟩ := Dd.g Cd h1 h60 hk'
          have l0 : opLI 1 (dtSI μ 133 35 (Int32.ofNat (qn Q + 1))) 134 (Int32.ofNat (136 + 6 * k)) = some (Int32.ofNat (mKd (dd D 0 k) (dd D 4 k))) := (L 0 (by decide)).trans (congrArg some E.1)
          have dk := (W.2 h1).2 k hk'
          have mi := mKd_i (t := dd D 4 k) dk.1
          rw [Cd.g133_0, o_bind, l0, o_bind]
          by_cases q23 : dd D 0 k = 23
          · refine ⟨dtSI μ 133 35 (Int32.ofNat (qn Q + 1)), ?_, liEnd.tr Fdx ?_⟩
            · rw [if_pos (show Int32.ofNat (mKd (dd D 0 k) (dd D 4 k)) = (22 : Int32) by rw [mi.2.2.2.1.mpr q23]; rfl)]
            · have e1 : doK A D k (qDone Q) = (true, A, qDone Q) := by
                unfold doK
                rw [if_neg (by omega), if_neg (by omega), if_neg (by omega), if_neg (by omega), if_neg (by omega)]
              have eA : stA A D k Q = A := by unfold stA; rw [e1]
              have eQ : stQ A D k Q = qDone Q := by unfold stQ tkQ; rw [e1]; rfl
              have eL : stL A D k Q = qDone Q := by
                unfold stL lK
                rw [eQ, if_neg (by omega)]; rfl
              have eN : nxK A D k = dLen D := by unfold nxK; rw [if_neg (by omega), if_pos q23]
              rw [eA, eL, eN, rN_end (Nat.le_refl _)]
              exact liEnd.of Hd
          · rw [if_neg (show ¬ Int32.ofNat (mKd (dd D 0 k) (dd D 4 k)) = (22 : Int32) by rw [show (22 : Int32) = Int32.ofNat 22 from rfl, z_eq (by omega) (by decide)]; exact fun y => q23 (mi.2.2.2.1.mp y)), Cd.g133_37, o_bind]
            have g0 : opLI 1 (dtSI μ 133 35 (Int32.ofNat (qn Q + 1))) 152 (0 : Int32) = some (Int32.ofNat (qm Q)) := by
              rw [show (0 : Int32) = Int32.ofNat 0 from rfl, o_LI Cd.s152 (by decide) (by decide), Hd.2.2.2.1.1]; rfl
            obtain ⟨μ1, e1, F1, H1⟩ := n_does Hd Dd W h1 (show qd (qDone Q) < 65536 from q.1) hk'
            have C1 := H1.c
            have W1 : dWF (stA A D k Q) D := stA_W W
            obtain ⟨sok, sn, sl⟩ := st_ok (A := A) (D := D) (k := k) q q300
            have D1 := Dd.ru W F1
            rw [g0, o_bind, Cd.v133, o_bind, e1, o_call]
            have key : ∀ s3 : Nat, s3 = (if (doK A D k (qDone Q)).1 = true then 0 else 1) → ∃ μ', f_X12_lives_112 (f_X12_lives_32 f) 133 (Int32.ofNat k) (Int32.ofNat (136 + 6 * k)) 152 (0 : Int32) (Int32.ofNat (qm Q)) (Int32.ofNat s3) μ1 = some μ' ∧ liEnd μ1 μ' D (rN D m1 (stA A D k Q) (stL A D k Q) (nxK (stA A D k Q) D k)) := fun s3 hs3 => by
              have F2 : Fr (fun a _ => a = 152) μ1 (dtSI μ1 152 0 (Int32.ofNat (qm Q + s3))) := Fr.SI rfl
              have F2x : Fr Mru μ1 (dtSI μ1 152 0 (Int32.ofNat (qm Q + s3))) := F2.wide (fun a b x => Or.inr (Or.inr (Or.inl x)))
              obtain ⟨dq1, dq2, dq3, dq4⟩ := doK_q (A := A) (D := D) (k := k) (Q := qDone Q) q.1
              have eq3 : qm (doK A D k (qDone Q)).2.2 = qm Q := dq3
              have hc := H1.2.2.2.1
              have em : qm (stQ A D k Q) = qm Q + s3 := by
                unfold stQ tkQ
                rw [hs3]
                cases (doK A D k (qDone Q)).1
                · rw [if_neg (by decide), if_neg (by decide)]
                  show qm (doK A D k (qDone Q)).2.2 + 1 = qm Q + 1
                  rw [eq3]
                · rw [if_pos rfl, if_pos rfl]; exact eq3
              have H2 : MU (dtSI μ1 152 0 (Int32.ofNat (qm Q + s3))) (stA A D k Q) (stQ A D k Q) := by
                have eqs : (stQ A D k Q).1.1 = (doK A D k (qDone Q)).2.2.1.1 ∧ (stQ A D k Q).1.2.1 = (doK A D k (qDone Q)).2.2.1.2.1 ∧ (stQ A D k Q).2 = (doK A D k (qDone Q)).2.2.2 := by
                  unfold stQ tkQ
                  cases (doK A D k (qDone Q)).1
                  · exact ⟨rfl, rfl, rfl⟩
                  · exact ⟨rfl, rfl, rfl⟩
                refine H1.tal F2 ⟨eqs.1, eqs.2.1, congrArg (fun x => x.2) eqs.2.2⟩ ⟨?_, ?_, ?_, ?_, ?_⟩
                · rw [m_I_SI, if_pos ⟨rfl, rfl⟩, em]
                · rw [m_I_SI, if_neg (by omega), hc.2.1]; exact congrArg (fun x => Int32.ofNat x.1.1) eqs.2.2.symm
                · rw [m_I_SI, if_neg (by omega), hc.2.2.1]; exact congrArg (fun x => Int32.ofNat x.1.2.1) eqs.2.2.symm
                · rw [m_I_SI, if_neg (by omega), hc.2.2.2.1]; exact congrArg (fun x => Int32.ofNat x.1.2.2) eqs.2.2.symm
                · rw [m_I_SI, if_neg (by omega)]; exact hc.2.2.2.2
              have D2 := D1.ru W F2x
              have C2 := H2.c
              obtain ⟨L2, E2⟩ := D2.g C2 h1 h60 hk'
              have l02 : opLI 1 (dtSI μ1 152 0 (Int32.ofNat (qm Q + s3))) 134 (Int32.ofNat (136 + 6 * k)) = some (Int32.ofNat (mKd (dd D 0 k) (dd D 4 k))) := (L2 0 (by decide)).trans (congrArg some E2.1)
              -- what lives_141 does, over any memory that holds the state behind the loop's number
              have tail : ∀ μ3, MU μ3 (stA A D k Q) (stL A D k Q) → MD μ3 0 D → ∃ μ', f_X12_lives_141 (f_X12_lives_32 f) 133 (Int32.ofNat k) (Int32.ofNat (136 + 6 * k)) μ3 = some μ' ∧ liEnd μ3 μ' D (rN D m1 (stA A D k Q) (stL A D k Q) (nxK (stA A D k Q) D k)) := fun μ3 H3 D3 => by
                have C3 := H3.c
                obtain ⟨L3, E3⟩ := D3.g C3 h1 h60 hk'
                have l03 : opLI 1 μ3 134 (Int32.ofNat (136 + 6 * k)) = some (Int32.ofNat (mKd (dd D 0 k) (dd D 4 k))) := (L3 0 (by decide)).trans (congrArg some E3.1)
                have fin : ∀ p, p ≤ dLen D → ∃ μ', f_X12_lives_178 (f_X12_lives_32 f) 133 133 (Int32.ofNat p) μ3 = some μ' ∧ liEnd μ3 μ' D (rN D m1 (stA A D k Q) (stL A D k Q) p) := fun p hp => by
                  obtain ⟨μ4, k', l', m', a1, a2, a3, a4, a5, a6, a7⟩ := n_ends h1 (m := m1) H3 D3 W1 hp (by omega)
                  have sok' : qOK (qLoop (stL A D k Q) l') := sok
                  have sn' : qn (qLoop (stL A D k Q) l') = qn Q + 1 := sn
                  obtain ⟨μ5, e5, E5⟩ := ih f m' k' _ _ μ4 a3 (D3.ru W1 a2) W1 sok' a4 a5 (by omega) (by omega) (by omega)
                  refine ⟨μ5, ?_, ?_⟩
                  · rw [f_X12_lives_178, C3.v133, o_bind, a1, o_call, e5]
                  · rw [a6]; exact liEnd.tr a2 E5
                rw [f_X12_lives_141, C3.g133_0, o_bind, l03, o_bind]
                by_cases q19 : dd D 0 k = 19
                · have l43 : opLI 1 μ3 134 (Int32.ofNat (136 + 6 * k + 4)) = some (Int32.ofNat (dd D 5 k)) := (L3 4 (by decide)).trans (congrArg some (E3.2.2.2.2.2.2 (Or.inl q19)))
                  have c6 := dk.2.2.2.2.2.2.1 (Or.inl q19)
                  rw [if_neg (show ¬ Int32.ofNat (mKd (dd D 0 k) (dd D 4 k)) < (1900 : Int32) by rw [show (1900 : Int32) = Int32.ofNat 1900 from rfl, z_lt (by omega) (by decide)]; have := mi.2.2.2.2.mpr q19; omega), C3.v133, o_bind, n_holds H3.mh C3 D3 W1 h1 hk' q19, o_call]
                  have en : nxK (stA A D k Q) D k = if holdK (stA A D k Q) D k = true then k + 1 else dd D 5 k + 1 := if_pos q19
                  rw [en]
                  cases holdK (stA A D k Q) D k
                  · rw [if_pos (by decide), C3.g133_0, o_bind, show (4 : Int32) = Int32.ofNat 4 from rfl, z_add, l43, o_bind, show (1 : Int32) = Int32.ofNat 1 from rfl, z_add, if_neg (by decide)]
                    exact fin _ (by omega)
                  · rw [if_neg (by decide), f_X12_lives_175, show (1 : Int32) = Int32.ofNat 1 from rfl, z_add, if_pos rfl]
                    exact fin _ (by omega)
                · have en : nxK (stA A D k Q) D k = k + 1 := by
                    unfold nxK
                    rw [if_neg q19, if_neg q23]
                  rw [if_pos (show Int32.ofNat (mKd (dd D 0 k) (dd D 4 k)) < (1900 : Int32) by rw [show (1900 : Int32) = Int32.ofNat 1900 from rfl, z_lt (by omega) (by decide)]; have := mi.2.2.2.2; omega), f_X12_lives_175, show (1 : Int32) = Int32.ofNat 1 from rfl, z_add, en]
                  exact fin _ (by omega)
              have s112 : f_X12_lives_112 (f_X12_lives_32 f) 133 (Int32.ofNat k) (Int32.ofNat (136 + 6 * k)) 152 (0 : Int32) (Int32.ofNat (qm Q)) (Int32.ofNat s3) μ1 = if Int32.ofNat (mKd (dd D 0 k) (dd D 4 k)) = (20 : Int32) then ((opGR 12 36 (dtSI μ1 152 0 (Int32.ofNat (qm Q + s3))) 133).bind fun x10 => (opGR 12 0 (dtSI μ1 152 0 (Int32.ofNat (qm Q + s3))) 133).bind fun x12 => (opLI 1 (dtSI μ1 152 0 (Int32.ofNat (qm Q + s3))) x12 ((Int32.ofNat (136 + 6 * k)) + (1 : Int32))).bind fun x14 => (opSI (dtSI μ1 152 0 (Int32.ofNat (qm Q + s3))) x10 (Int32.ofNat k) (x14 - (1 : Int32))).bind fun μ16 => f_X12_lives_141 (f_X12_lives_32 f) 133 (Int32.ofNat k) (Int32.ofNat (136 + 6 * k)) μ16) else (f_X12_lives_141 (f_X12_lives_32 f) 133 (Int32.ofNat k) (Int32.ofNat (136 + 6 * k)) (dtSI μ1 152 0 (Int32.ofNat (qm Q + s3)))) := by
                rw [f_X12_lives_112, show (0 : Int32) = Int32.ofNat 0 from rfl, z_add, o_SI C1.s152 (by decide) (by decide), o_bind, C2.g133_0, o_bind, l02, o_bind]
              rw [s112]
              by_cases q21 : dd D 0 k = 21
              · have c5 := dk.2.2.2.2.2.1 q21
                have l12 : opLI 1 (dtSI μ1 152 0 (Int32.ofNat (qm Q + s3))) 134 (Int32.ofNat (136 + 6 * k + 1)) = some (Int32.ofNat (dd D 2 k)) := (L2 1 (by decide)).trans (congrArg some (E2.2.2.2.1 (Or.inl q21)))
                have H3 : MU (dtSI (dtSI μ1 152 0 (Int32.ofNat (qm Q + s3))) 151 k (Int32.ofNat (dd D 2 k - 1))) (stA A D k Q) (stL A D k Q) := by
                  have := H2.loo (k := k) (v := dd D 2 k) c5.2
                  have e : stL A D k Q = qLoop (stQ A D k Q) (dtUp (ql (stQ A D k Q)) k (dd D 2 k)) := by
                    unfold stL lK
                    rw [if_pos q21]
                  rw [e]; exact this
                have F3 : Fr Mru (dtSI μ1 152 0 (Int32.ofNat (qm Q + s3))) (dtSI (dtSI μ1 152 0 (Int32.ofNat (qm Q + s3))) 151 k (Int32.ofNat (dd D 2 k - 1))) := Fr.SI (Or.inr (Or.inr (Or.inr (Or.inl rfl))))
                obtain ⟨μ', e', E'⟩ := tail _ H3 (D2.ru W F3)
                refine ⟨μ', ?_, liEnd.tr (F2x.tr F3) E'⟩
                rw [if_pos (show Int32.ofNat (mKd (dd D 0 k) (dd D 4 k)) = (20 : Int32) by rw [mi.2.2.1.mpr q21]; rfl), C2.g133_36, o_bind, C2.g133_0, o_bind, show (1 : Int32) = Int32.ofNat 1 from rfl, z_add, l12, o_bind, z_sub c5.1, o_SI C2.s151 (show k < 80 by omega) (by decide), o_bind, e']
              · have H3 : MU (dtSI μ1 152 0 (Int32.ofNat (qm Q + s3))) (stA A D k Q) (stL A D k Q) := by
                  have e : stL A D k Q = stQ A D k Q := by
                    unfold stL lK
                    rw [if_neg q21]; rfl
                  rw [e]; exact H2
                obtain ⟨μ', e', E'⟩ := tail _ H3 D2
                refine ⟨μ', ?_, liEnd.tr F2x E'⟩
                rw [if_neg (show ¬ Int32.ofNat (mKd (dd D 0 k) (dd D 4 k)) = (20 : Int32) by rw [show (20 : Int32) = Int32.ofNat 20 from rfl, z_eq (by omega) (by decide)]; exact fun y => q21 (mi.2.2.1.mp y)), e']
            have Fx : Fr Mru μ μ1 := Fdx.tr F1
            cases hb : (doK A D k (qDone Q)).1
            · obtain ⟨μ', e', E'⟩ := key 1 (by rw [hb]; rfl)
              exact ⟨μ', by rw [if_pos (by decide)]; exact e', liEnd.tr Fx E'⟩
            · obtain ⟨μ', e', E'⟩ := key 0 (by rw [hb]; rfl)
              exact ⟨μ', by rw [if_neg (by decide)]; exact e', liEnd.tr Fx E'⟩
theorem li12 : ∀ (n f i : Nat) (μ : dtM), i + n = 5 → n < f → CX μ → ∃ μ', f_X12_lives_12 f 133 (Int32.ofNat i) μ = f_X12_lives_32 dtFuel 133 (Int32.ofNat 0) μ' ∧ Fr (fun a _ => a = 152) μ μ' ∧ ∀ j, j < 5 → dtI μ' 152 j = if i ≤ j then Int32.ofNat 0 else dtI μ 152 j := by
  intro n
  induction n with
  | zero =>
    intro f i μ e hf C
    cases f with
    | zero => omega
    | succ f =>
      refine ⟨μ, ?_, Fr.rf, fun j hj => by rw [if_neg (by omega)]⟩
      rw [f_X12_lives_12, if_pos (show (5 : Int32) ≤ Int32.ofNat i by rw [show (5 : Int32) = Int32.ofNat 5 from rfl, z_le (by decide) (by omega)]; omega)]
      rfl
  | succ n ih =>
    intro f i μ e hf C
    cases f with
    | zero => omega
    | succ f =>
      have F1 : Fr (fun a _ => a = 152) μ (dtSI μ 152 i (Int32.ofNat 0)) := Fr.SI rfl
      obtain ⟨μ2, e2, F2, g2⟩ := ih f (i + 1) _ (by omega) (by omega) (C.kept F1)
      refine ⟨μ2, ?_, F1.tr F2, fun j hj => ?_⟩
      · rw [← e2, f_X12_lives_12, if_neg (show ¬ (5 : Int32) ≤ Int32.ofNat i by rw [show (5 : Int32) = Int32.ofNat 5 from rfl, z_le (by decide) (by omega)]; omega), C.g133_37, o_bind, show (0 : Int32) = Int32.ofNat 0 from rfl, o_SI C.s152 (show i < 5 by omega) (by decide), o_bind, show (1 : Int32) = Int32.ofNat 1 from rfl, z_add]
      · rw [g2 j hj, m_I_SI]
        by_cases x : j = i
        · subst x; rw [if_neg (by omega), if_pos ⟨rfl, rfl⟩, if_pos (Nat.le_refl _)]
        · by_cases y : i ≤ j
          · rw [if_pos (by omega), if_pos y]
          · rw [if_neg (by omega), if_neg (by omega), if_neg y]
theorem n_lives {μ : dtM} {seed : Nat} {A : aH} {D : aD} {l : Nat → Nat} (C : CX μ) (M : MH μ 0 0 A) (L : ML μ l) (h1 : D.1 = 1) (HD : MD μ 0 D) (W : dWF A D) (hseed : seed < 65536) : ∃ μ', f_X12_lives 133 (Int32.ofNat seed) μ = some μ' ∧ liEnd μ μ' D (rN D 1000000 A (q0 seed l) 0) := by
  have F0 : Fr (fun a b => a = 133 ∧ (b = 34 ∨ b = 35)) μ (dtSI (dtSI μ 133 34 (Int32.ofNat seed)) 133 35 (Int32.ofNat 0)) := (Fr.SI ⟨rfl, Or.inl rfl⟩).tr (Fr.SI ⟨rfl, Or.inr rfl⟩)
  have C0 := C.kept F0
  obtain ⟨μ1, e1, F1, g1⟩ := li12 5 dtFuel 0 _ (by omega) (dtFuel_gt (by decide)) C0
  have F0x : Fr Mru μ _ := F0.wide (fun a b x => Or.inr (Or.inr (Or.inr (Or.inr x))))
  have F1x : Fr Mru _ μ1 := F1.wide (fun a b x => Or.inr (Or.inr (Or.inl x)))
  have D1 := HD.ru W (F0x.tr F1x)
  have M1 : MH μ1 0 0 A := (M.keptAt F0 (by intros; omega) (by intros; omega)).keptAt F1 (by intros; omega) (by intros; omega)
  have H1 : MU μ1 A (q0 seed l) := by
    refine ⟨C0.kept F1, M1, ⟨?_, ?_⟩, ⟨?_, ?_, ?_, ?_, ?_⟩, (L.kept F0 (by intros; omega)).kept F1 (by intros; omega)⟩
    · rw [F1.i (by omega), m_I_SI, if_neg (by omega), m_I_SI, if_pos ⟨rfl, rfl⟩]; rfl
    · rw [F1.i (by omega), m_I_SI, if_pos ⟨rfl, rfl⟩]; rfl
    · rw [g1 0 (by decide), if_pos (by decide)]; rfl
    · rw [g1 1 (by decide), if_pos (by decide)]; rfl
    · rw [g1 2 (by decide), if_pos (by decide)]; rfl
    · rw [g1 3 (by decide), if_pos (by decide)]; rfl
    · rw [g1 4 (by decide), if_pos (by decide)]
  have hne : dLen D ≤ 0 ∨ ¬ dd D 0 0 = 22 := by
    by_cases x : dLen D ≤ 0
    · exact Or.inl x
    · right
      intro y
      have := ((W.2 h1).2 0 (by omega)).2.2.2.2.2.2.2 y
      omega
  obtain ⟨μ2, e2, E2⟩ := li32 h1 301 dtFuel 1000000 0 A (q0 seed l) μ1 H1 D1 W ⟨hseed, Nat.le_refl _, Nat.zero_le _⟩ (Nat.zero_le _) hne (by show 301 ≤ 0 + 301; omega) (dtFuel_gt (by decide)) (by decide)
  refine ⟨μ2, ?_, liEnd.tr (F0x.tr F1x) E2⟩
  rw [f_X12_lives, o_PI C.s133, o_bind, o_PI (show dtS (dtSI μ 133 34 (Int32.ofNat seed)) 133 = (0, 12) from C.s133), o_bind]
  exact e1.trans e2
