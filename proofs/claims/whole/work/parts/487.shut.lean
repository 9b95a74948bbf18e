/-! PURE 26: shut with a sound, the program's side; closed, the model's -/
abbrev PHs (h : Nat) : Nat → Nat → Prop := fun k _ => h ≤ k ∧ k ≤ h + 12
def hSn (A : aH) (d s set : Nat) : aH := if s = 3 then hMd (fo (hC1 set s) (hs A 3) 0 A) else hSh (hMd (fo (hC1 set s) (hs A 3) 0 A)) d
theorem fo_s {set s k : Nat} : ∀ (n i : Nat) (A : aH), hs (fo (hC1 set s) n i A) k = hs A k
  | 0, _, _ => rfl
  | n + 1, i, A => by rw [fo, fo_s n (i + 1), hC1_s]
theorem sw14 {h d s set : Nat} (hset : set < 32) (hs4 : s < 4) : ∀ (n f i : Nat) (μ : dtM) (A : aH), i + n = hs A 3 → d < hs A 1 → n < f → PH μ h A → ∃ μ', f_X2_shutWith_14 f h (Int32.ofNat d) (Int32.ofNat s) (Int32.ofNat set) (Int32.ofNat i) μ = some (Int32.ofNat set, μ') ∧ Fr (PHs h) μ μ' ∧ PH μ' h (if s = 3 then hMd (fo (hC1 set s) n i A) else hSh (hMd (fo (hC1 set s) n i A)) d) := by
  intro n
  induction n with
  | zero =>
    intro f i μ A e hd hf H
    have hnp := H.np
    cases f with
    | zero => omega
    | succ f =>
      have H1 := H.made
      have F1 : Fr (PHs h) μ (dtSI μ h 6 (hm A + Int32.ofNat 1)) := Fr.SI ⟨Nat.le_refl _, by omega⟩
      simp only [f_X2_shutWith_14, f_X2_shutWith_68, H.g3, H.g6, o_bind, z_lit, z_le (show hs A 3 < 2147483648 by omega) (show i < 2147483648 by omega), o_PI H.s0, z_eq (show s < 2147483648 by omega) (show 3 < 2147483648 by decide), H1.rv]
      rw [if_pos (by omega)]
      by_cases q : s = 3
      · rw [if_pos q, if_pos q]
        exact ⟨_, rfl, F1, H1⟩
      · rw [if_neg q, if_neg q]
        obtain ⟨μ2, x2, F2, H2⟩ := H1.shutDoor (d := d) hd
        rw [x2]
        exact ⟨μ2, rfl, F1.tr (F2.wide (fun k _ x => by show h ≤ k ∧ k ≤ h + 12; omega)), H2⟩
  | succ n ih =>
    intro f i μ A e hd hf H
    have hnp := H.np
    cases f with
    | zero => omega
    | succ f =>
      have hi : i < hs A 3 := by omega
      rw [fo]
      simp only [f_X2_shutWith_14, f_X2_shutWith_41, H.g3, H.rv, o_bind, o_call, z_lit, z_le (show hs A 3 < 2147483648 by omega) (show i < 2147483648 by omega), f_contains (show set < 2147483648 by omega) (show i < 32 by omega), b0, z_add]
      rw [if_neg (by omega)]
      cases q : set.testBit i
      · have e1 : hC1 set s i A = A := if_neg (by rw [q]; decide)
        rw [if_pos rfl, e1]
        exact ih f (i + 1) μ A (by omega) hd (by omega) H
      · have e1 : hC1 set s i A = hCt A i s := if_pos q
        rw [if_neg (by decide), e1]
        obtain ⟨μ1, x1, F1, H1⟩ := H.catchSound hi hs4
        obtain ⟨μ2, x2, F2, H2⟩ := ih f (i + 1) μ1 (hCt A i s) (by rw [hCt_s]; omega) (by rw [hCt_s]; exact hd) (by omega) H1
        rw [x1]
        exact ⟨μ2, x2, (F1.wide (fun k _ x => by show h ≤ k ∧ k ≤ h + 12; omega)).tr F2, H2⟩
theorem PH.shutWith {μ : dtM} {h : Nat} {A : aH} (H : PH μ h A) (G : hHr μ) (hh : h + 12 < 123) {d s : Nat} {mk : Int32} (hs4 : s < 4) (hd : d < hs A 1) : ∃ μ', f_X2_shutWith 122 h mk (Int32.ofNat d) (Int32.ofNat s) μ = some (Int32.ofNat (hSet A d s mk), μ') ∧ Fr (fun k j => PHs h k j ∨ k = 123) μ μ' ∧ PH μ' h (hSn A d s (hSet A d s mk)) := by
  have hnp := H.np
  obtain ⟨μ1, e1, F1⟩ := H.hearersOf G hh (mk := mk) hs4 hd
  obtain ⟨μ2, e2, F2, H2⟩ := sw14 (h := h) (d := d) (s := s) (hSet_lt H.2.2 (d := d) (s := s) (mk := mk)) hs4 (hs A 3) dtFuel 0 μ1 A (by omega) hd (dtFuel_gt (by omega)) (H.k123 hh F1)
  refine ⟨μ2, ?_, (F1.wide (fun k _ x => Or.inr x)).tr (F2.wide (fun k _ x => Or.inl x)), H2⟩
  rw [← e2]
  simp only [f_X2_shutWith, o_Rv G.1, o_bind, e1, o_call, z_lit]
theorem MH.sounds {μ : dtM} {A : aH} (H : MH μ 0 0 A) (L : mLs μ) {d s : Nat} {mk : Int32} (hs4 : s < 4) (hd : d < hs A 1) : ∃ μ', f_X12_sounds 133 (Int32.ofNat d) (Int32.ofNat s) mk μ = some (Int32.ofNat (hSet A d s mk), μ') ∧ Fr (fun k j => P134 k j ∨ k = 142) μ μ' ∧ MH μ' 0 0 (hMd (fo (hC1 (hSet A d s mk) s) (hs A 3) 0 A)) := by
  have hnp := H.np
  obtain ⟨μ1, e1, F1⟩ := H.hearing L (mk := mk) hs4 hd
  obtain ⟨μ2, e2, F2, H2⟩ := MH.so12 (s := s) (hSet_lt H.2.2 (d := d) (s := s) (mk := mk)) hs4 (hs A 3) dtFuel 0 μ1 A (by omega) (dtFuel_gt (by omega)) (H.k142 F1)
  refine ⟨μ2, ?_, (F1.wide (fun k _ x => Or.inr x)).tr (F2.wide (fun k _ x => Or.inl x)), H2⟩
  rw [← e2]
  simp only [f_X12_sounds, H.rv, o_bind, e1, o_call, z_lit]
