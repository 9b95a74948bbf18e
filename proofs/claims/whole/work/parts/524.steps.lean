/-! PURE 64: the program's copies, step by step -/
theorem o_CI {μ : dtM} {a b sp dp n na nb : Nat} (ha : dtS μ a = (1, na)) (hb : dtS μ b = (1, nb)) (h1 : sp + n ≤ na) (h2 : dp + n ≤ nb) (h3 : na < 2147483648) (h4 : nb < 2147483648) : opCI μ a (Int32.ofNat sp) b (Int32.ofNat dp) (Int32.ofNat n) = some (dtRI μ b (va_cpy (dtI μ a) (dtI μ b) sp dp n)) := by
  have n0 : ∀ k, k < 2147483648 → ¬ Int32.ofNat k < 0 := fun k hk => by
    rw [show (0 : Int32) = Int32.ofNat 0 from rfl, z_lt0 hk]; exact id
  unfold opCI
  rw [ha, hb, z_cl (show sp < 2147483648 by omega), z_cl (show dp < 2147483648 by omega), z_cl (show n < 2147483648 by omega)]
  exact if_pos ⟨⟨rfl, rfl⟩, ⟨n0 sp (by omega), n0 dp (by omega), n0 n (by omega)⟩, h1, h2⟩
abbrev Prow (k : Nat) : Nat → Nat → Prop := fun a _ => a = k
abbrev Pcel (k j : Nat) : Nat → Nat → Prop := fun a b => a = k ∧ b = j
theorem st_s {μ : dtM} {ci j p q : Nat} {α : Type} {K : dtM → Option α} (hp : dtS μ p = (0, ci)) (hq : dtS μ q = (0, ci)) : ∃ μ', ((opGI ci j μ q).bind fun x => (opPI ci j μ p x).bind K) = K μ' ∧ Fr (Pcel p j) μ μ' ∧ dtI μ' p j = dtI μ q j :=
  ⟨dtSI μ p j (dtI μ q j), by rw [o_GI hq, o_bind, o_PI hp, o_bind], Fr.SI ⟨rfl, rfl⟩, by rw [m_I_SI, if_pos ⟨rfl, rfl⟩]⟩
theorem st_i {μ : dtM} {ci j p q a b n : Nat} {α : Type} {K : dtM → Option α} (hp : dtS μ p = (0, ci)) (hq : dtS μ q = (0, ci)) (ra : dtR μ q j = some a) (rb : dtR μ p j = some b) (ha : dtS μ a = (1, n)) (hb : dtS μ b = (1, n)) (hn : n < 2147483648) : ∃ μ', ((opGR ci j μ q).bind fun x29 => (opGR ci j μ p).bind fun x31 => (opGR ci j μ p).bind fun x33 => (opAL μ x33).bind fun x35 => (opCI μ x29 (0 : Int32) x31 (0 : Int32) x35).bind K) = K μ' ∧ Fr (Prow b) μ μ' ∧ ∀ x, x < n → dtI μ' b x = dtI μ a x :=
  ⟨dtRI μ b (va_cpy (dtI μ a) (dtI μ b) 0 0 n), by
    rw [o_GR hq ra, o_GR hp rb, o_bind, o_bind, o_bind, o_AL hb (by decide), o_bind, show (0 : Int32) = Int32.ofNat 0 from rfl, o_CI ha hb (by omega) (by omega) hn hn, o_bind], Fr.RI (fun _ => rfl), fun x hx => by
    rw [m_I_RI, if_pos rfl]
    show (if 0 ≤ x ∧ x < 0 + n then dtI μ a (0 + (x - 0)) else dtI μ b x) = dtI μ a x
    rw [if_pos (by omega), Nat.zero_add, Nat.sub_zero]⟩
theorem st_j {μ : dtM} {ci j p q a b n : Nat} {α : Type} {K : dtM → Option α} (hp : dtS μ p = (0, ci)) (hq : dtS μ q = (0, ci)) (ra : dtR μ q j = some a) (rb : dtR μ p j = some b) (ha : dtS μ a = (3, n)) (hb : dtS μ b = (3, n)) (hn : n < 2147483648) : ∃ μ', ((opGR ci j μ q).bind fun x29 => (opGR ci j μ p).bind fun x31 => (opGR ci j μ p).bind fun x33 => (opAL μ x33).bind fun x35 => (opCJ μ x29 (0 : Int32) x31 (0 : Int32) x35).bind K) = K μ' ∧ Fr (Prow b) μ μ' ∧ ∀ x, x < n → dtJ μ' b x = dtJ μ a x :=
  ⟨dtRJ μ b (va_cpy (dtJ μ a) (dtJ μ b) 0 0 n), by
    rw [o_GR hq ra, o_GR hp rb, o_bind, o_bind, o_bind, o_AL hb (by decide), o_bind, show (0 : Int32) = Int32.ofNat 0 from rfl, o_CJ ha hb (by omega) (by omega) hn hn, o_bind], Fr.RJ (fun _ => rfl), fun x hx => by
    rw [m_J_RJ, if_pos rfl]
    show (if 0 ≤ x ∧ x < 0 + n then dtJ μ a (0 + (x - 0)) else dtJ μ b x) = dtJ μ a x
    rw [if_pos (by omega), Nat.zero_add, Nat.sub_zero]⟩
