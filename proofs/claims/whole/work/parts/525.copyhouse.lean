/-! PURE 65: the program's house copied -/
theorem ss_s {μ : dtM} {ci j p q : Nat} {α : Type} {K : dtM → Option α} {G : α → Prop} (hp : dtS μ p = (0, ci)) (hq : dtS μ q = (0, ci)) (h : ∀ μ', Fr (Pcel p j) μ μ' → dtI μ' p j = dtI μ q j → ∃ v, K μ' = some v ∧ G v) : ∃ v, ((opGI ci j μ q).bind fun x => (opPI ci j μ p x).bind K) = some v ∧ G v := by
  obtain ⟨μ', e, F, g⟩ := st_s (K := K) (j := j) hp hq
  rw [e]; exact h μ' F g
theorem ss_i {μ : dtM} {ci j p q : Nat} (a b n : Nat) {α : Type} {K : dtM → Option α} {G : α → Prop} (hp : dtS μ p = (0, ci)) (hq : dtS μ q = (0, ci)) (ra : dtR μ q j = some a) (rb : dtR μ p j = some b) (ha : dtS μ a = (1, n)) (hb : dtS μ b = (1, n)) (hn : n < 2147483648) (h : ∀ μ', Fr (Prow b) μ μ' → (∀ x, x < n → dtI μ' b x = dtI μ a x) → ∃ v, K μ' = some v ∧ G v) : ∃ v, ((opGR ci j μ q).bind fun x29 => (opGR ci j μ p).bind fun x31 => (opGR ci j μ p).bind fun x33 => (opAL μ x33).bind fun x35 => (opCI μ x29 (0 : Int32) x31 (0 : Int32) x35).bind K) = some v ∧ G v := by
  obtain ⟨μ', e, F, g⟩ := st_i (K := K) hp hq ra rb ha hb hn
  rw [e]; exact h μ' F g
theorem ss_j {μ : dtM} {ci j p q : Nat} (a b n : Nat) {α : Type} {K : dtM → Option α} {G : α → Prop} (hp : dtS μ p = (0, ci)) (hq : dtS μ q = (0, ci)) (ra : dtR μ q j = some a) (rb : dtR μ p j = some b) (ha : dtS μ a = (3, n)) (hb : dtS μ b = (3, n)) (hn : n < 2147483648) (h : ∀ μ', Fr (Prow b) μ μ' → (∀ x, x < n → dtJ μ' b x = dtJ μ a x) → ∃ v, K μ' = some v ∧ G v) : ∃ v, ((opGR ci j μ q).bind fun x29 => (opGR ci j μ p).bind fun x31 => (opGR ci j μ p).bind fun x33 => (opAL μ x33).bind fun x35 => (opCJ μ x29 (0 : Int32) x31 (0 : Int32) x35).bind K) = some v ∧ G v := by
  obtain ⟨μ', e, F, g⟩ := st_j (K := K) hp hq ra rb ha hb hn
  rw [e]; exact h μ' F g
theorem PH.copyFrom {μ : dtM} {p q : Nat} {A : aH} (H : PH μ q A) (S : pSh μ p) (d : p + 12 < q ∨ q + 12 < p) : ∃ μf, f_X3_copyFrom p q μ = some μf ∧ Fr (fun k _ => p ≤ k ∧ k ≤ p + 12) μ μf ∧ PH μf p A := by
  obtain ⟨⟨a0, a1, a2⟩, ⟨a3, a4, a5⟩, ⟨a6, a7⟩, ⟨a8, a9, a10, a11⟩, a12, b1, b2, b3, b4, b5, b6, b7, b8, b9, b10, b11, b12⟩ := id S
  obtain ⟨⟨c0, c1, c2⟩, ⟨c3, c4, c5⟩, ⟨c6, c7⟩, ⟨c8, c9, c10, c11⟩, c12, e1, e2, e3, e4, e5, e6, e7, e8, e9, e10, e11, e12⟩ := id H.1
  rw [f_X3_copyFrom]
  have T0 : Fr (fun k _ => p ≤ k ∧ k ≤ p + 12) μ μ := Fr.rf
  refine ss_s (by rw [T0.S]; exact a0) (by rw [T0.S]; exact c0) (fun μ1 F1 g1 => ?_)
  have T1 := T0.tr (F1.wide (Q := fun k _ => p ≤ k ∧ k ≤ p + 12) (fun k y x => by have := x.1; omega))
  refine ss_s (by rw [T1.S]; exact a0) (by rw [T1.S]; exact c0) (fun μ2 F2 g2 => ?_)
  have T2 := T1.tr (F2.wide (Q := fun k _ => p ≤ k ∧ k ≤ p + 12) (fun k y x => by have := x.1; omega))
  refine ss_s (by rw [T2.S]; exact a0) (by rw [T2.S]; exact c0) (fun μ3 F3 g3 => ?_)
  have T3 := T2.tr (F3.wide (Q := fun k _ => p ≤ k ∧ k ≤ p + 12) (fun k y x => by have := x.1; omega))
  refine ss_s (by rw [T3.S]; exact a0) (by rw [T3.S]; exact c0) (fun μ4 F4 g4 => ?_)
  have T4 := T3.tr (F4.wide (Q := fun k _ => p ≤ k ∧ k ≤ p + 12) (fun k y x => by have := x.1; omega))
  refine ss_s (by rw [T4.S]; exact a0) (by rw [T4.S]; exact c0) (fun μ5 F5 g5 => ?_)
  have T5 := T4.tr (F5.wide (Q := fun k _ => p ≤ k ∧ k ≤ p + 12) (fun k y x => by have := x.1; omega))
  refine ss_s (by rw [T5.S]; exact a0) (by rw [T5.S]; exact c0) (fun μ6 F6 g6 => ?_)
  have T6 := T5.tr (F6.wide (Q := fun k _ => p ≤ k ∧ k ≤ p + 12) (fun k y x => by have := x.1; omega))
  refine ss_s (by rw [T6.S]; exact a0) (by rw [T6.S]; exact c0) (fun μ7 F7 g7 => ?_)
  have T7 := T6.tr (F7.wide (Q := fun k _ => p ≤ k ∧ k ≤ p + 12) (fun k y x => by have := x.1; omega))
  refine ss_j (q + 1) (p + 1) 7 (by rw [T7.S]; exact a0) (by rw [T7.S]; exact c0) (by rw [T7.Ra]; exact e1) (by rw [T7.Ra]; exact b1) (by rw [T7.S]; exact c1) (by rw [T7.S]; exact a1) (by decide) (fun μ8 F8 g8 => ?_)
  have T8 := T7.tr (F8.wide (Q := fun k _ => p ≤ k ∧ k ≤ p + 12) (fun k y x => by have : k = p + 1 := x; omega))
  refine ss_j (q + 2) (p + 2) 5 (by rw [T8.S]; exact a0) (by rw [T8.S]; exact c0) (by rw [T8.Ra]; exact e2) (by rw [T8.Ra]; exact b2) (by rw [T8.S]; exact c2) (by rw [T8.S]; exact a2) (by decide) (fun μ9 F9 g9 => ?_)
  have T9 := T8.tr (F9.wide (Q := fun k _ => p ≤ k ∧ k ≤ p + 12) (fun k y x => by have : k = p + 2 := x; omega))
  refine ss_i (q + 3) (p + 3) 10 (by rw [T9.S]; exact a0) (by rw [T9.S]; exact c0) (by rw [T9.Ra]; exact e3) (by rw [T9.Ra]; exact b3) (by rw [T9.S]; exact c3) (by rw [T9.S]; exact a3) (by decide) (fun μ10 F10 g10 => ?_)
  have T10 := T9.tr (F10.wide (Q := fun k _ => p ≤ k ∧ k ≤ p + 12) (fun k y x => by have : k = p + 3 := x; omega))
  refine ss_i (q + 4) (p + 4) 10 (by rw [T10.S]; exact a0) (by rw [T10.S]; exact c0) (by rw [T10.Ra]; exact e4) (by rw [T10.Ra]; exact b4) (by rw [T10.S]; exact c4) (by rw [T10.S]; exact a4) (by decide) (fun μ11 F11 g11 => ?_)
  have T11 := T10.tr (F11.wide (Q := fun k _ => p ≤ k ∧ k ≤ p + 12) (fun k y x => by have : k = p + 4 := x; omega))
  refine ss_i (q + 5) (p + 5) 10 (by rw [T11.S]; exact a0) (by rw [T11.S]; exact c0) (by rw [T11.Ra]; exact e5) (by rw [T11.Ra]; exact b5) (by rw [T11.S]; exact c5) (by rw [T11.S]; exact a5) (by decide) (fun μ12 F12 g12 => ?_)
  have T12 := T11.tr (F12.wide (Q := fun k _ => p ≤ k ∧ k ≤ p + 12) (fun k y x => by have : k = p + 5 := x; omega))
  refine ss_i (q + 6) (p + 6) 7 (by rw [T12.S]; exact a0) (by rw [T12.S]; exact c0) (by rw [T12.Ra]; exact e6) (by rw [T12.Ra]; exact b6) (by rw [T12.S]; exact c6) (by rw [T12.S]; exact a6) (by decide) (fun μ13 F13 g13 => ?_)
  have T13 := T12.tr (F13.wide (Q := fun k _ => p ≤ k ∧ k ≤ p + 12) (fun k y x => by have : k = p + 6 := x; omega))
  refine ss_i (q + 7) (p + 7) 28 (by rw [T13.S]; exact a0) (by rw [T13.S]; exact c0) (by rw [T13.Ra]; exact e7) (by rw [T13.Ra]; exact b7) (by rw [T13.S]; exact c7) (by rw [T13.S]; exact a7) (by decide) (fun μ14 F14 g14 => ?_)
  have T14 := T13.tr (F14.wide (Q := fun k _ => p ≤ k ∧ k ≤ p + 12) (fun k y x => by have : k = p + 7 := x; omega))
  refine ss_i (q + 8) (p + 8) 5 (by rw [T14.S]; exact a0) (by rw [T14.S]; exact c0) (by rw [T14.Ra]; exact e8) (by rw [T14.Ra]; exact b8) (by rw [T14.S]; exact c8) (by rw [T14.S]; exact a8) (by decide) (fun μ15 F15 g15 => ?_)
  have T15 := T14.tr (F15.wide (Q := fun k _ => p ≤ k ∧ k ≤ p + 12) (fun k y x => by have : k = p + 8 := x; omega))
  refine ss_i (q + 9) (p + 9) 5 (by rw [T15.S]; exact a0) (by rw [T15.S]; exact c0) (by rw [T15.Ra]; exact e9) (by rw [T15.Ra]; exact b9) (by rw [T15.S]; exact c9) (by rw [T15.S]; exact a9) (by decide) (fun μ16 F16 g16 => ?_)
  have T16 := T15.tr (F16.wide (Q := fun k _ => p ≤ k ∧ k ≤ p + 12) (fun k y x => by have : k = p + 9 := x; omega))
  refine ss_i (q + 10) (p + 10) 5 (by rw [T16.S]; exact a0) (by rw [T16.S]; exact c0) (by rw [T16.Ra]; exact e10) (by rw [T16.Ra]; exact b10) (by rw [T16.S]; exact c10) (by rw [T16.S]; exact a10) (by decide) (fun μ17 F17 g17 => ?_)
  have T17 := T16.tr (F17.wide (Q := fun k _ => p ≤ k ∧ k ≤ p + 12) (fun k y x => by have : k = p + 10 := x; omega))
  refine ss_i (q + 11) (p + 11) 5 (by rw [T17.S]; exact a0) (by rw [T17.S]; exact c0) (by rw [T17.Ra]; exact e11) (by rw [T17.Ra]; exact b11) (by rw [T17.S]; exact c11) (by rw [T17.S]; exact a11) (by decide) (fun μ18 F18 g18 => ?_)
  have T18 := T17.tr (F18.wide (Q := fun k _ => p ≤ k ∧ k ≤ p + 12) (fun k y x => by have : k = p + 11 := x; omega))
  refine ss_i (q + 12) (p + 12) 40 (by rw [T18.S]; exact a0) (by rw [T18.S]; exact c0) (by rw [T18.Ra]; exact e12) (by rw [T18.Ra]; exact b12) (by rw [T18.S]; exact c12) (by rw [T18.S]; exact a12) (by decide) (fun μ19 F19 g19 => ?_)
  have T19 := T18.tr (F19.wide (Q := fun k _ => p ≤ k ∧ k ≤ p + 12) (fun k y x => by have : k = p + 12 := x; omega))
  have v0 : dtI μ19 p 0 = dtI μ q 0 := by rw [F19.i (by show ¬ (_ = _); omega), F18.i (by show ¬ (_ = _); omega), F17.i (by show ¬ (_ = _); omega), F16.i (by show ¬ (_ = _); omega), F15.i (by show ¬ (_ = _); omega), F14.i (by show ¬ (_ = _); omega), F13.i (by show ¬ (_ = _); omega), F12.i (by show ¬ (_ = _); omega), F11.i (by show ¬ (_ = _); omega), F10.i (by show ¬ (_ = _); omega), F9.i (by show ¬ (_ = _); omega), F8.i (by show ¬ (_ = _); omega), F7.i (by show ¬ (_ ∧ _); omega), F6.i (by show ¬ (_ ∧ _); omega), F5.i (by show ¬ (_ ∧ _); omega), F4.i (by show ¬ (_ ∧ _); omega), F3.i (by show ¬ (_ ∧ _); omega), F2.i (by show ¬ (_ ∧ _); omega), g1]
  have v1 : dtI μ19 p 1 = dtI μ q 1 := by rw [F19.i (by show ¬ (_ = _); omega), F18.i (by show ¬ (_ = _); omega), F17.i (by show ¬ (_ = _); omega), F16.i (by show ¬ (_ = _); omega), F15.i (by show ¬ (_ = _); omega), F14.i (by show ¬ (_ = _); omega), F13.i (by show ¬ (_ = _); omega), F12.i (by show ¬ (_ = _); omega), F11.i (by show ¬ (_ = _); omega), F10.i (by show ¬ (_ = _); omega), F9.i (by show ¬ (_ = _); omega), F8.i (by show ¬ (_ = _); omega), F7.i (by show ¬ (_ ∧ _); omega), F6.i (by show ¬ (_ ∧ _); omega), F5.i (by show ¬ (_ ∧ _); omega), F4.i (by show ¬ (_ ∧ _); omega), F3.i (by show ¬ (_ ∧ _); omega), g2, T1.i (by show ¬ (_ ∧ _); omega)]
  have v2 : dtI μ19 p 2 = dtI μ q 2 := by rw [F19.i (by show ¬ (_ = _); omega), F18.i (by show ¬ (_ = _); omega), F17.i (by show ¬ (_ = _); omega), F16.i (by show ¬ (_ = _); omega), F15.i (by show ¬ (_ = _); omega), F14.i (by show ¬ (_ = _); omega), F13.i (by show ¬ (_ = _); omega), F12.i (by show ¬ (_ = _); omega), F11.i (by show ¬ (_ = _); omega), F10.i (by show ¬ (_ = _); omega), F9.i (by show ¬ (_ = _); omega), F8.i (by show ¬ (_ = _); omega), F7.i (by show ¬ (_ ∧ _); omega), F6.i (by show ¬ (_ ∧ _); omega), F5.i (by show ¬ (_ ∧ _); omega), F4.i (by show ¬ (_ ∧ _); omega), g3, T2.i (by show ¬ (_ ∧ _); omega)]
  have v3 : dtI μ19 p 3 = dtI μ q 3 := by rw [F19.i (by show ¬ (_ = _); omega), F18.i (by show ¬ (_ = _); omega), F17.i (by show ¬ (_ = _); omega), F16.i (by show ¬ (_ = _); omega), F15.i (by show ¬ (_ = _); omega), F14.i (by show ¬ (_ = _); omega), F13.i (by show ¬ (_ = _); omega), F12.i (by show ¬ (_ = _); omega), F11.i (by show ¬ (_ = _); omega), F10.i (by show ¬ (_ = _); omega), F9.i (by show ¬ (_ = _); omega), F8.i (by show ¬ (_ = _); omega), F7.i (by show ¬ (_ ∧ _); omega), F6.i (by show ¬ (_ ∧ _); omega), F5.i (by show ¬ (_ ∧ _); omega), g4, T3.i (by show ¬ (_ ∧ _); omega)]
  have v4 : dtI μ19 p 4 = dtI μ q 4 := by rw [F19.i (by show ¬ (_ = _); omega), F18.i (by show ¬ (_ = _); omega), F17.i (by show ¬ (_ = _); omega), F16.i (by show ¬ (_ = _); omega), F15.i (by show ¬ (_ = _); omega), F14.i (by show ¬ (_ = _); omega), F13.i (by show ¬ (_ = _); omega), F12.i (by show ¬ (_ = _); omega), F11.i (by show ¬ (_ = _); omega), F10.i (by show ¬ (_ = _); omega), F9.i (by show ¬ (_ = _); omega), F8.i (by show ¬ (_ = _); omega), F7.i (by show ¬ (_ ∧ _); omega), F6.i (by show ¬ (_ ∧ _); omega), g5, T4.i (by show ¬ (_ ∧ _); omega)]
  have v5 : dtI μ19 p 5 = dtI μ q 5 := by rw [F19.i (by show ¬ (_ = _); omega), F18.i (by show ¬ (_ = _); omega), F17.i (by show ¬ (_ = _); omega), F16.i (by show ¬ (_ = _); omega), F15.i (by show ¬ (_ = _); omega), F14.i (by show ¬ (_ = _); omega), F13.i (by show ¬ (_ = _); omega), F12.i (by show ¬ (_ = _); omega), F11.i (by show ¬ (_ = _); omega), F10.i (by show ¬ (_ = _); omega), F9.i (by show ¬ (_ = _); omega), F8.i (by show ¬ (_ = _); omega), F7.i (by show ¬ (_ ∧ _); omega), g6, T5.i (by show ¬ (_ ∧ _); omega)]
  have v6 : dtI μ19 p 6 = dtI μ q 6 := by rw [F19.i (by show ¬ (_ = _); omega), F18.i (by show ¬ (_ = _); omega), F17.i (by show ¬ (_ = _); omega), F16.i (by show ¬ (_ = _); omega), F15.i (by show ¬ (_ = _); omega), F14.i (by show ¬ (_ = _); omega), F13.i (by show ¬ (_ = _); omega), F12.i (by show ¬ (_ = _); omega), F11.i (by show ¬ (_ = _); omega), F10.i (by show ¬ (_ = _); omega), F9.i (by show ¬ (_ = _); omega), F8.i (by show ¬ (_ = _); omega), g7, T6.i (by show ¬ (_ ∧ _); omega)]
  have r1 : ∀ x, x < 7 → dtJ μ19 (p + 1) x = dtJ μ (q + 1) x := fun x hx => by rw [F19.j (by show ¬ (_ = _); omega), F18.j (by show ¬ (_ = _); omega), F17.j (by show ¬ (_ = _); omega), F16.j (by show ¬ (_ = _); omega), F15.j (by show ¬ (_ = _); omega), F14.j (by show ¬ (_ = _); omega), F13.j (by show ¬ (_ = _); omega), F12.j (by show ¬ (_ = _); omega), F11.j (by show ¬ (_ = _); omega), F10.j (by show ¬ (_ = _); omega), F9.j (by show ¬ (_ = _); omega), g8 x hx, T7.j (by show ¬ (_ ∧ _); omega)]
  have r2 : ∀ x, x < 5 → dtJ μ19 (p + 2) x = dtJ μ (q + 2) x := fun x hx => by rw [F19.j (by show ¬ (_ = _); omega), F18.j (by show ¬ (_ = _); omega), F17.j (by show ¬ (_ = _); omega), F16.j (by show ¬ (_ = _); omega), F15.j (by show ¬ (_ = _); omega), F14.j (by show ¬ (_ = _); omega), F13.j (by show ¬ (_ = _); omega), F12.j (by show ¬ (_ = _); omega), F11.j (by show ¬ (_ = _); omega), F10.j (by show ¬ (_ = _); omega), g9 x hx, T8.j (by show ¬ (_ ∧ _); omega)]
  have r3 : ∀ x, x < 10 → dtI μ19 (p + 3) x = dtI μ (q + 3) x := fun x hx => by rw [F19.i (by show ¬ (_ = _); omega), F18.i (by show ¬ (_ = _); omega), F17.i (by show ¬ (_ = _); omega), F16.i (by show ¬ (_ = _); omega), F15.i (by show ¬ (_ = _); omega), F14.i (by show ¬ (_ = _); omega), F13.i (by show ¬ (_ = _); omega), F12.i (by show ¬ (_ = _); omega), F11.i (by show ¬ (_ = _); omega), g10 x hx, T9.i (by show ¬ (_ ∧ _); omega)]
  have r4 : ∀ x, x < 10 → dtI μ19 (p + 4) x = dtI μ (q + 4) x := fun x hx => by rw [F19.i (by show ¬ (_ = _); omega), F18.i (by show ¬ (_ = _); omega), F17.i (by show ¬ (_ = _); omega), F16.i (by show ¬ (_ = _); omega), F15.i (by show ¬ (_ = _); omega), F14.i (by show ¬ (_ = _); omega), F13.i (by show ¬ (_ = _); omega), F12.i (by show ¬ (_ = _); omega), g11 x hx, T10.i (by show ¬ (_ ∧ _); omega)]
  have r5 : ∀ x, x < 10 → dtI μ19 (p + 5) x = dtI μ (q + 5) x := fun x hx => by rw [F19.i (by show ¬ (_ = _); omega), F18.i (by show ¬ (_ = _); omega), F17.i (by show ¬ (_ = _); omega), F16.i (by show ¬ (_ = _); omega), F15.i (by show ¬ (_ = _); omega), F14.i (by show ¬ (_ = _); omega), F13.i (by show ¬ (_ = _); omega), g12 x hx, T11.i (by show ¬ (_ ∧ _); omega)]
  have r6 : ∀ x, x < 7 → dtI μ19 (p + 6) x = dtI μ (q + 6) x := fun x hx => by rw [F19.i (by show ¬ (_ = _); omega), F18.i (by show ¬ (_ = _); omega), F17.i (by show ¬ (_ = _); omega), F16.i (by show ¬ (_ = _); omega), F15.i (by show ¬ (_ = _); omega), F14.i (by show ¬ (_ = _); omega), g13 x hx, T12.i (by show ¬ (_ ∧ _); omega)]
  have r7 : ∀ x, x < 28 → dtI μ19 (p + 7) x = dtI μ (q + 7) x := fun x hx => by rw [F19.i (by show ¬ (_ = _); omega), F18.i (by show ¬ (_ = _); omega), F17.i (by show ¬ (_ = _); omega), F16.i (by show ¬ (_ = _); omega), F15.i (by show ¬ (_ = _); omega), g14 x hx, T13.i (by show ¬ (_ ∧ _); omega)]
  have r8 : ∀ x, x < 5 → dtI μ19 (p + 8) x = dtI μ (q + 8) x := fun x hx => by rw [F19.i (by show ¬ (_ = _); omega), F18.i (by show ¬ (_ = _); omega), F17.i (by show ¬ (_ = _); omega), F16.i (by show ¬ (_ = _); omega), g15 x hx, T14.i (by show ¬ (_ ∧ _); omega)]
  have r9 : ∀ x, x < 5 → dtI μ19 (p + 9) x = dtI μ (q + 9) x := fun x hx => by rw [F19.i (by show ¬ (_ = _); omega), F18.i (by show ¬ (_ = _); omega), F17.i (by show ¬ (_ = _); omega), g16 x hx, T15.i (by show ¬ (_ ∧ _); omega)]
  have r10 : ∀ x, x < 5 → dtI μ19 (p + 10) x = dtI μ (q + 10) x := fun x hx => by rw [F19.i (by show ¬ (_ = _); omega), F18.i (by show ¬ (_ = _); omega), g17 x hx, T16.i (by show ¬ (_ ∧ _); omega)]
  have r11 : ∀ x, x < 5 → dtI μ19 (p + 11) x = dtI μ (q + 11) x := fun x hx => by rw [F19.i (by show ¬ (_ = _); omega), g18 x hx, T17.i (by show ¬ (_ ∧ _); omega)]
  have r12 : ∀ x, x < 40 → dtI μ19 (p + 12) x = dtI μ (q + 12) x := fun x hx => by rw [g19 x hx, T18.i (by show ¬ (_ ∧ _); omega)]
  have hnr := H.nr
  have hnd := H.nd
  have hnw := H.nw
  have hnp := H.np
  refine ⟨μ19, rfl, T19, ⟨by unfold pSh; rw [T19.S, T19.Ra]; exact S, ⟨fun j hj => ?_, v6.trans H.2.1.2.1, fun t i o => ?_, fun r hr => (r1 r (by omega)).trans (H.2.1.2.2.2.1 r hr), fun x hx => (r2 x (by omega)).trans (H.2.1.2.2.2.2 x hx)⟩, H.2.2⟩⟩
  · have := H.2.1.1 j hj
    have h6 : j = 0 ∨ j = 1 ∨ j = 2 ∨ j = 3 ∨ j = 4 ∨ j = 5 := by omega
    rcases h6 with rfl | rfl | rfl | rfl | rfl | rfl
    · exact v0.trans this
    · exact v1.trans this
    · exact v2.trans this
    · exact v3.trans this
    · exact v4.trans this
    · exact v5.trans this
  · have y := H.2.1.2.2.1 t i o
    rw [← y]
    have hB := hok_B H.2.2 o
    have hw : 12 ≤ t → t - 12 < 8 := fun _ => by have := hB.1; omega
    by_cases h3 : t < 3
    · have hi := hB.2.1 h3
      have ei : pIdx t i = i := by unfold pIdx; rw [if_neg (by omega), if_neg (by omega)]
      have h : t = 0 ∨ t = 1 ∨ t = 2 := by omega
      rw [ei]
      rcases h with rfl | rfl | rfl
      · exact r3 i hi
      · exact r4 i hi
      · exact r5 i hi
    · by_cases h8 : t < 8
      · have hi := hB.2.2.1 (by omega) h8
        by_cases e3 : t = 3
        · subst e3; exact r6 i hi
        · have ep : ∀ h, pRow h t = h + 7 := fun h => by unfold pRow; rw [if_neg (by omega), if_neg (by omega), if_pos h8]
          have ei : pIdx t i = 4 * i + (t - 4) := by unfold pIdx; rw [if_pos (by omega)]
          rw [ep, ep, ei]
          exact r7 _ (by omega)
      · have hi := hB.2.2.2 (by omega)
        by_cases h12 : t < 12
        · have ei : pIdx t i = i := by unfold pIdx; rw [if_neg (by omega), if_neg (by omega)]
          have h : t = 8 ∨ t = 9 ∨ t = 10 ∨ t = 11 := by omega
          rw [ei]
          rcases h with rfl | rfl | rfl | rfl
          · exact r8 i hi
          · exact r9 i hi
          · exact r10 i hi
          · exact r11 i hi
        · have ep : ∀ h, pRow h t = h + 12 := fun h => by unfold pRow; rw [if_neg (by omega), if_neg (by omega), if_neg (by omega), if_neg (by omega)]
          have ei : pIdx t i = 8 * i + (t - 12) := by unfold pIdx; rw [if_neg (by omega), if_pos (by omega)]
          have := hw (by omega)
          rw [ep, ep, ei]
          exact r12 _ (by omega)
