/-! PURE 99999: the start, what stands behind it -/
theorem sqN : evN sqM = 154 := by decide +kernel
theorem sqZ : evZ sqM ≤ 7302250 := by decide +kernel
theorem sqS : ∀ k, k < 154 → evS sqM k = sgL.getD k (7, 0) := by decide +kernel
theorem sqR : ∀ q, q ∈ rfL → evR sqM q.1 q.2.1 = some q.2.2 := by decide +kernel
theorem sqG : evG sqM = true := by decide +kernel
theorem sqX {L : Nat} {xs : Nat → Int32} : CX (evM L xs sqM) := by
  refine ⟨⟨by rw [ev_N, sqN]; decide, by rw [ev_Z]; exact sqZ⟩, fun k hk => by rw [ev_S (by omega)]; exact sqS k hk, fun q hq => by rw [ev_R]; exact sqR q hq⟩
def zT0 : aT := (fun _ => 0, fun _ => 0, fun _ _ => 0)
def zB0 : aB := (0, fun _ => 0, -Int32.ofNat 1, -Int32.ofNat 1)
def zK0 : aK := (0, fun _ => (hE, dD0))
def zV0 : aV := (0, fun _ => 0)
def z00 : aZ := (zT0, zB0, dD0, zK0, zV0, fun _ => 0)
theorem sq_a : ∀ i, i < 4 → evI sqM (2 + 2 * i) 0 = Int32.ofNat 0 ∧ evI sqM 137 i = -Int32.ofNat 1 := by decide +kernel
theorem sq_b : evI sqM 10 1 = Int32.ofNat 0 ∧ evI sqM 10 2 = -Int32.ofNat 1 ∧ evI sqM 10 3 = -Int32.ofNat 1 ∧ evI sqM 133 10 = Int32.ofNat 0 ∧ evI sqM 133 16 = -Int32.ofNat 1 ∧ evI sqM 133 17 = -Int32.ofNat 1 := by decide +kernel
theorem sq_c : evI sqM 38 0 = Int32.ofNat 0 ∧ evI sqM 0 11 = Int32.ofNat 0 ∧ evI sqM 133 40 = Int32.ofNat 0 ∧ evI sqM 132 0 = -Int32.ofNat 1 ∧ evI sqM 133 39 = Int32.ofNat 0 ∧ evI sqM 0 0 = Int32.ofNat 0 ∧ evI sqM 133 2 = Int32.ofNat 0 := by decide +kernel
theorem sq_d : evJ sqM 0 1 = Int64.ofNat 0 ∧ evJ sqM 0 2 = Int64.ofNat 1 ∧ evJ sqM 133 3 = Int64.ofNat 0 ∧ evJ sqM 133 4 = Int64.ofNat 1 := by decide +kernel
theorem sq_e : ∀ k, k < 60 → evI sqM 131 k = Int32.ofNat 0 ∧ evI sqM 151 k = Int32.ofNat 0 := by decide +kernel
theorem sq_f : ∀ j, j < 7 → evI sqM 12 j = Int32.ofNat (if j = 4 then 4 else 0) := by decide +kernel
theorem sq_g : evR sqM 0 5 = some 12 ∧ evR sqM 0 6 = some 25 ∧ evR sqM 0 7 = some 38 ∧ evR sqM 0 8 = some 45 := by decide +kernel
/-- behind both constructors both sides stand alike, and the script is there -/
theorem dtBegun {L : Nat} {xs : Nat → Int32} : ∃ μ, f_L_law (dtMu0 L xs) = f_L_law_18 dtFuel 0 133 (0 : Int32) μ ∧ RR μ ∧ dtS μ 1000000 = (8, L) ∧ dtI μ 1000000 = xs := by
  have C := sqX (L := L) (xs := xs)
  obtain ⟨μ, e, F, p4, p7, p0⟩ := n_plain (b := 0) (by decide) C
  rw [Nat.zero_add] at p4 p7
  have C' := C.kept F
  have i : ∀ k j, ¬ k = 134 → ¬ k = 1000000 → dtI μ k j = evI sqM k j := fun k j h h2 => by rw [F.i (fun x => h x.1), ev_I h2]
  have jj : ∀ k j, ¬ k = 134 → dtJ μ k j = evJ sqM k j := fun k j h => by rw [F.j (fun x => h x.1), ev_J]
  have rr : ∀ k j, dtR μ k j = evR sqM k j := fun k j => by rw [F.Ra, ev_R]
  obtain ⟨b1, b2, b3, b4, b5, b6⟩ := sq_b
  obtain ⟨c1, c2, c3, c4, c5, c6, c7⟩ := sq_c
  obtain ⟨d1, d2, d3, d4⟩ := sq_d
  obtain ⟨g1, g2, g3, g4⟩ := sq_g
  obtain ⟨x1, x2⟩ := ev_X (L := L) (xs := xs) sqM sqG
  have HP : RP μ (12, 25, 38, 45) (Int32.ofNat 0, Int64.ofNat 0, Int64.ofNat 1) hE z00 := by
    refine ⟨C', ⟨⟨Or.inl ⟨rfl, rfl⟩, Or.inl ⟨rfl, rfl⟩⟩, (rr _ _).trans g1, (rr _ _).trans g2, (rr _ _).trans g3, (rr _ _).trans g4⟩, ⟨(i 0 0 (by decide) (by decide)).trans c6, (jj 0 1 (by decide)).trans d1, (jj 0 2 (by decide)).trans d2⟩, ⟨C'.pSh12, ⟨fun j hj => ?_, ?_, fun t k q => (hE_ok q).elim, fun r hr => absurd hr (Nat.not_lt_zero _), fun p hp => absurd hp (Nat.not_lt_zero _)⟩, hE_W⟩, fun k hk => ⟨⟨Nat.zero_le _, Nat.zero_le _⟩, ?_, fun h => absurd h (Nat.not_lt_zero _)⟩, ⟨⟨by decide, fun j hj => absurd hj (Nat.not_lt_zero _)⟩, (i 10 1 (by decide) (by decide)).trans b1, fun j hj => absurd hj (Nat.not_lt_zero _), (i 10 2 (by decide) (by decide)).trans b2, (i 10 3 (by decide) (by decide)).trans b3⟩, ⟨(i 38 0 (by decide) (by decide)).trans c1, fun h => absurd h (show ¬ (0 : Nat) = 1 by decide)⟩, ⟨by decide, (i 0 11 (by decide) (by decide)).trans c2, fun k hk => absurd hk (Nat.not_lt_zero _)⟩, ⟨by decide, fun _ => (i 132 0 (by decide) (by decide)).trans c4, fun h => absurd h (show ¬ (0 : Nat) = 1 by decide)⟩, fun k hk => ⟨Nat.zero_le _, (i 131 k (by decide) (by decide)).trans (sq_e k hk).1⟩⟩
    · exact (i 12 j (by decide) (by decide)).trans (sq_f j (by omega))
    · exact (i 12 6 (by decide) (by decide)).trans (sq_f 6 (by decide))
    · have h2 : taN (zT z00) k = 0 := rfl
      rw [h2, if_pos rfl]
      exact (i _ 0 (by omega) (by omega)).trans (sq_a k hk).1
  have HM : RM μ (Int32.ofNat 0, Int64.ofNat 0, Int64.ofNat 1) hE z00 := by
    refine ⟨C', ⟨(i 133 2 (by decide) (by decide)).trans c7, (jj 133 3 (by decide)).trans d3, (jj 133 4 (by decide)).trans d4⟩, MH.plain C' (by rw [Nat.zero_add]; exact p4) p0, fun k hk => ⟨⟨Nat.zero_le _, Nat.zero_le _⟩, fun _ => (i 137 k (by decide) (by decide)).trans (sq_a k hk).2, fun h => absurd h (Nat.not_lt_zero _)⟩, ⟨⟨by decide, fun j hj => absurd hj (Nat.not_lt_zero _)⟩, (i 133 10 (by decide) (by decide)).trans b4, fun j hj => absurd hj (Nat.not_lt_zero _), (i 133 16 (by decide) (by decide)).trans b5, (i 133 17 (by decide) (by decide)).trans b6⟩, ⟨fun _ => by rw [Nat.zero_add]; exact p7, fun h => absurd h (show ¬ (0 : Nat) = 1 by decide)⟩, ⟨by decide, (i 133 40 (by decide) (by decide)).trans c3, fun k hk => absurd hk (Nat.not_lt_zero _)⟩, ⟨by decide, (i 133 39 (by decide) (by decide)).trans c5, fun h => absurd h (show ¬ (0 : Nat) = 1 by decide)⟩, fun k hk => ⟨Nat.zero_le _, (i 151 k (by decide) (by decide)).trans (sq_e k hk).2⟩⟩
  refine ⟨μ, ?_, ⟨_, _, _, _, HP, HM, dD0_W⟩, by rw [F.S]; exact x1, by rw [F.I (fun j x => by have := x.1; omega)]; exact x2⟩
  have n0 : opNew 11 (dtMu0 L xs) = some (0, evM L xs [(0, (dtC 11).2.2, 0, 11)]) := b_New (L := L) (xs := xs) (c := []) (N := 0) rfl (by decide)
  rw [f_L_law, n0, o_call, o_Lt (by decide), o_bind, a11, o_bind, b_New (N := 133) (by decide +kernel) (by decide), o_call, o_Lt (by decide), o_bind, a12, C.v133, o_bind, e, o_bind, o_bind]
