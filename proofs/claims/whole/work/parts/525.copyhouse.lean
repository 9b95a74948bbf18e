/-! PURE 65: the program's house copied -/
theorem ss_s {μ : dtM} {ci j p q : Nat} {α : Type} {K : dtM → Option α} {G : α → Prop} (hp : dtS μ p = (0, ci)) (hq : dtS μ q = (0, ci)) (h : ∀ μ', Fr (Pcel p j) μ μ' → dtI μ' p j = dtI μ q j → ∃ v, K μ' = some v ∧ G v) : ∃ v, ((opGI ci j μ q).bind fun x => (opPI ci j μ p x).bind K) = some v ∧ G v := by
  obtain ⟨μ', e, F, g⟩ := st_s (K := K) (j := j) hp hq
  rw [e]; exact h μ' F g
theorem ss_i {μ : dtM} {ci j p q : Nat} (a b n : Nat) {α : Type} {K : dtM → Option α} {G : α → Prop} (hp : dtS μ p = (0, ci)) (hq : dtS μ q = (0, ci)) (ra : dtR μ q j = some a) (rb : dtR μ p j = some b) (ha : dtS μ a = (1, n)) (hb : dtS μ b = (1, n)) (hn : n < 2147483648) (h : ∀ μ', Fr (Prow b) μ μ' → (∀ x, x < n → dtI μ' b x = dtI μ a x) → ∃ v, K μ' = some v ∧ G v) : ∃ v, ((opGR ci j μ q).bind fun x29 => (opGR ci j μ p).bind fun x31 => (opGR ci j μ p).bind fun x33 => (opAL μ x33).bind fun x35 => (opCI μ x29 (0 : Int32) x31 (0 : Int32) x35).bind K) = some v ∧ G v := by
  obtain ⟨μ', e, F, g⟩ := st_i (K := K) hp hq ra rb ha hb hn
  rw [e]; exact h μ' F g
theorem ss_j {μ : dtM} {ci j p q : Nat} (a b n : Nat) {α : Type} {K : dtM → Option α} {G : α → Prop} (hp : dtS μ p = (0, ci)) (hq : dtS μ q = (0, ci)) (ra : dtR μ q j = some a) (rb : dtR μ p j = some b) (ha : dtS μ a = (3, n)) (hb : dtS μ b = (3, n)) (hn : n < 2147483648) (h : ∀ μ', Fr (Prow b) μ μ' → (∀ x, x < n → dtJ μ' b x = dtJ μ a x) → ∃ v, K μ' = some v ∧ G v) : ∃ v, ((opGR ci j μ q).bind fun x29 => (opGR ci j μ p).bind fun x31 => (opGR ci j μ p).bind fun x33 => (opAL μ x33).bind fun x35 => (opCJ μ x29 (0 : Int32) x31 (0 : Int32) x35).bind K) = some v ∧ G v := by
  obtain ⟨μ', e, F, g⟩ := st_j (K := K) hp hq ra rb ha hb hn
  rw [e]; exact h μ' F g
