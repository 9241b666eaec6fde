section PBASE
/-- defined, and its value is so -/
def Ok {α : Type} (x : Option α) (Q : α → Prop) : Prop := ∃ a, x = some a ∧ Q a
theorem ok_some {α : Type} {a : α} {Q : α → Prop} (h : Q a) : Ok (some a) Q := ⟨a, rfl, h⟩
theorem ok_eq {α : Type} {x : Option α} {a : α} {Q : α → Prop} (e : x = some a) (h : Q a) : Ok x Q := ⟨a, e, h⟩
theorem ok_bd {α β : Type} {x : Option α} {f : α → Option β} {Q : β → Prop} (h : Ok x (fun a => Ok (f a) Q)) : Ok (bd x f) Q := by
  obtain ⟨a, rfl, h⟩ := h; exact h
theorem Ok.mono {α : Type} {x : Option α} {P Q : α → Prop} (h : Ok x P) (k : ∀ a, P a → Q a) : Ok x Q := by
  obtain ⟨a, e, h⟩ := h; exact ⟨a, e, k a h⟩
theorem ok_bd2 {α β : Type} {x : Option α} {f : α → Option β} {P : α → Prop} {Q : β → Prop} (h : Ok x P) (k : ∀ a, P a → Ok (f a) Q) : Ok (bd x f) Q := ok_bd (h.mono k)
theorem ok_nm {α β : Type} {x : α} {f : α → Option β} {Q : β → Prop} (h : Ok (f x) Q) : Ok (nm x f) Q := h
theorem ok_jn {τ ρ : Type} {K : τ → Option ρ} {b : (τ → Option ρ) → Option ρ} {Q : ρ → Prop} (P : τ → Prop) (hK : ∀ t, P t → Ok (K t) Q) (hb : ∀ K' : τ → Option ρ, (∀ t, P t → Ok (K' t) Q) → Ok (b K') Q) : Ok (jn K b) Q := hb K hK
theorem ok_if {ρ : Type} {c : Prop} {i : Decidable c} {a b : Option ρ} {Q : ρ → Prop} (h1 : c → Ok a Q) (h2 : ¬ c → Ok b Q) : Ok (@ite _ c i a b) Q := by
  by_cases h : c
  · rw [if_pos h]; exact h1 h
  · rw [if_neg h]; exact h2 h
theorem ok_gd {ρ : Type} {c : Prop} {i : Decidable c} {a b : Option ρ} {Q : ρ → Prop} (hc : c) (h : Ok a Q) : Ok (@ite _ c i a b) Q := by rw [if_pos hc]; exact h
theorem ok_ng {ρ : Type} {c : Prop} {i : Decidable c} {a b : Option ρ} {Q : ρ → Prop} (hc : ¬ c) (h : Ok b Q) : Ok (@ite _ c i a b) Q := by rw [if_neg hc]; exact h
/-- a loop with a measure and what stays true -/
theorem ok_lp {σ ρ : Type} {body : (σ → Option ρ) → σ → Option ρ} {Q : ρ → Prop} (μ : σ → Nat) (I : σ → Prop)
    (step : ∀ (rc : σ → Option ρ) (x : σ), I x → (∀ y, I y → μ y < μ x → Ok (rc y) Q) → Ok (body rc x) Q) : ∀ (n : Nat) (x : σ), I x → μ x < n → Ok (lp body n x) Q
  | 0, _, _, h => absurd h (Nat.not_lt_zero _)
  | n + 1, x, hI, h => step (lp body n) x hI (fun y hy hm => ok_lp μ I step n y hy (by omega))
/-- a counting loop with what stays true -/
theorem ok_for {σ ρ : Type} {body : (σ → Option ρ) → σ → Option ρ} {Q : ρ → Prop} (N : Nat) (I : Nat → σ → Prop)
    (step : ∀ (rc : σ → Option ρ) (k : Nat) (x : σ), k < N → I k x → (∀ y, I (k + 1) y → Ok (rc y) Q) → Ok (body rc x) Q)
    (last : ∀ (rc : σ → Option ρ) (x : σ), I N x → Ok (body rc x) Q) {n : Nat} (hn : N < n) {x : σ} (h0 : I 0 x) : Ok (lp body n x) Q := by
  suffices h : ∀ (d k : Nat) (x : σ), k + d = N → I k x → ∀ m, d < m → Ok (lp body m x) Q from h N 0 x (by omega) h0 n hn
  intro d
  induction d with
  | zero =>
    intro k x hk hI m hm
    obtain ⟨m, rfl⟩ : ∃ j, m = j + 1 := ⟨m - 1, by omega⟩
    obtain rfl : k = N := by omega
    exact last _ x hI
  | succ d ih =>
    intro k x hk hI m hm
    obtain ⟨m, rfl⟩ : ∃ j, m = j + 1 := ⟨m - 1, by omega⟩
    exact step _ k x (by omega) hI (fun y hy => ih (k + 1) y (by omega) hy m (by omega))
/-- the same, the loop's state laid out of the count and the rest -/
theorem ok_forE {σ ρ α : Type} {body : (σ → Option ρ) → σ → Option ρ} {Q : ρ → Prop} (enc : Nat → α → σ) (N : Nat) (I : Nat → α → Prop)
    (step : ∀ (rc : σ → Option ρ) (k : Nat) (a : α), k < N → I k a → (∀ a', I (k + 1) a' → Ok (rc (enc (k + 1) a')) Q) → Ok (body rc (enc k a)) Q)
    (last : ∀ (rc : σ → Option ρ) (a : α), I N a → Ok (body rc (enc N a)) Q) {n : Nat} (hn : N < n) {x : σ} (a0 : α) (hx : x = enc 0 a0) (h0 : I 0 a0) : Ok (lp body n x) Q := by
  refine ok_for N (fun k x => ∃ a, x = enc k a ∧ I k a) ?_ ?_ hn ⟨a0, hx, h0⟩
  · rintro rc k _ hk ⟨a, rfl, hI⟩ ih
    exact step rc k a hk hI (fun a' h' => ih _ ⟨a', rfl, h'⟩)
  · rintro rc _ ⟨a, rfl, hI⟩
    exact last rc a hI
/-- a counting loop whose states are given -/
theorem lp_seq {σ ρ : Type} {body : (σ → Option ρ) → σ → Option ρ} {r : ρ} (f : Nat → σ) (N : Nat)
    (step : ∀ (rc : σ → Option ρ) (k : Nat), k < N → body rc (f k) = rc (f (k + 1))) (last : ∀ rc : σ → Option ρ, body rc (f N) = some r) {n : Nat} (hn : N < n) {x : σ} (h0 : x = f 0) : lp body n x = some r := by
  obtain ⟨a, e, rfl⟩ := ok_for (body := body) (Q := fun a => a = r) N (fun k x => x = f k) (fun rc k x hk hx ih => by rw [hx, step rc k hk]; exact ih _ rfl) (fun rc x hx => by rw [hx, last]; exact ok_some rfl) hn h0
  exact e
def foldN {α : Type} (step : Nat → α → α) (a : α) : Nat → α
  | 0 => a
  | k + 1 => step k (foldN step a k)
theorem lp_fold {σ ρ α : Type} {body : (σ → Option ρ) → σ → Option ρ} (enc : Nat → α → σ) (st : Nat → α → α) (res : α → ρ) (a0 : α) (N : Nat)
    (step : ∀ (rc : σ → Option ρ) (k : Nat) (a : α), k < N → body rc (enc k a) = rc (enc (k + 1) (st k a))) (last : ∀ (rc : σ → Option ρ) (a : α), body rc (enc N a) = some (res a)) {n : Nat} (hn : N < n) {x : σ} (h0 : x = enc 0 a0) : lp body n x = some (res (foldN st a0 N)) :=
  lp_seq (fun k => enc k (foldN st a0 k)) N (fun rc k hk => step rc k _ hk) (fun rc => last rc _) hn h0
theorem foldN_congr {α : Type} {f g : Nat → α → α} {a : α} : ∀ {N : Nat}, (∀ k a, k < N → f k a = g k a) → foldN f a N = foldN g a N
  | 0, _ => rfl
  | N + 1, h => by
    show f N (foldN f a N) = g N (foldN g a N)
    rw [foldN_congr (fun k a hk => h k a (by omega)), h N _ (by omega)]
theorem foldN_rel {α β : Type} {f : Nat → α → α} {g : Nat → β → β} {a : α} {b : β} (R : Nat → α → β → Prop) (h0 : R 0 a b) : ∀ {N : Nat}, (∀ k a b, k < N → R k a b → R (k + 1) (f k a) (g k b)) → R N (foldN f a N) (foldN g b N)
  | 0, _ => h0
  | N + 1, h => h N _ _ (by omega) (foldN_rel R h0 (fun k a b hk => h k a b (by omega)))
theorem foldN_ind {α : Type} {f : Nat → α → α} {a : α} (R : Nat → α → Prop) (h0 : R 0 a) : ∀ {N : Nat}, (∀ k a, k < N → R k a → R (k + 1) (f k a)) → R N (foldN f a N)
  | 0, _ => h0
  | N + 1, h => h N _ (by omega) (foldN_ind R h0 (fun k a hk => h k a (by omega)))
-- small simplifications
theorem bd_s {α β : Type} (a : α) (f : α → Option β) : bd (some a) f = f a := by have h := Eq.refl 0; cases h; exact Eq.trans rfl rfl
theorem nm_s {α β : Type} (a : α) (f : α → Option β) : nm a f = f a := by have h := Eq.refl 0; cases h; exact Eq.trans rfl rfl
theorem jn_s {τ ρ : Type} (K : τ → Option ρ) (b : (τ → Option ρ) → Option ρ) : jn K b = b K := by have h := Eq.refl 0; cases h; exact Eq.trans rfl rfl
theorem sm_l {α β ρ : Type} (a : α) (f : α → Option ρ) (g : β → Option ρ) : sm (.inl a) f g = f a := by have h := Eq.refl 0; cases h; exact Eq.trans rfl rfl
theorem sm_r {α β ρ : Type} (a : β) (f : α → Option ρ) (g : β → Option ρ) : sm (.inr a) f g = g a := by have h := Eq.refl 0; cases h; exact Eq.trans rfl rfl
theorem sA_e (v : St) (f : Nat) (g : Nat → Int32) : sA v f g f = g := by simp [sA]
theorem sA_n (v : St) (f : Nat) (g : Nat → Int32) {h : Nat} (hn : h ≠ f) : sA v f g h = v h := by simp [sA, hn]
theorem su_e (v : St) (f k : Nat) (x : Int32) : su v f k x f = upd (v f) k x := by simp [su, sA]
theorem su_n (v : St) (f k : Nat) (x : Int32) {h : Nat} (hn : h ≠ f) : su v f k x h = v h := by simp [su, sA, hn]
theorem upd_e (f : Nat → Int32) (k : Nat) (x : Int32) : upd f k x k = x := by simp [upd]
theorem upd_n (f : Nat → Int32) (k : Nat) (x : Int32) {j : Nat} (h : j ≠ k) : upd f k x j = f j := by simp [upd, h]
theorem upd_a (f : Nat → Int32) (k : Nat) (x : Int32) (j : Nat) : upd f k x j = if j = k then x else f j := rfl
-- numbers
abbrev J (k : Nat) : Int32 := Int32.ofNat k
theorem J_lit (m : Nat) : (OfNat.ofNat m : Int32) = J m := rfl
theorem J_nat {k : Nat} (h : k < 2147483648) : (J k).toNatClampNeg = k := Int32.toNatClampNeg_ofNat_of_lt h
theorem J_toInt {k : Nat} (h : k < 2147483648) : (J k).toInt = k := Int32.toInt_ofNat_of_lt h
theorem J_le {a b : Nat} (ha : a < 2147483648) (hb : b < 2147483648) : J a ≤ J b ↔ a ≤ b := Int32.ofNat_le_iff_le ha hb
theorem J_lt {a b : Nat} (ha : a < 2147483648) (hb : b < 2147483648) : J a < J b ↔ a < b := Int32.ofNat_lt_iff_lt ha hb
theorem J_inj {a b : Nat} (ha : a < 2147483648) (hb : b < 2147483648) : J a = J b ↔ a = b := by
  constructor
  · intro h
    have := congrArg Int32.toInt h
    rw [J_toInt ha, J_toInt hb] at this
    omega
  · intro h; rw [h]
theorem J_add (a b : Nat) : J a + J b = J (a + b) := (Int32.ofNat_add a b).symm
theorem J_mul (a b : Nat) : J a * J b = J (a * b) := (Int32.ofNat_mul a b).symm
theorem J_sub {a b : Nat} (h : b ≤ a) : J a - J b = J (a - b) := by
  have e : J a = J (a - b) + J b := by rw [J_add]; congr 1; omega
  rw [e]; grind
theorem J_neg1 (k : Nat) (h : 0 < k) : J k + (-1) = J (k - 1) := by
  have e : J k = J (k - 1) + J 1 := by rw [J_add]; congr 1; omega
  rw [e, show J 1 = (1 : Int32) from rfl]; grind
theorem J_nn {k : Nat} (h : k < 2147483648) : ¬ J k < 0 := by
  rw [show (0 : Int32) = J 0 from rfl, J_lt h (by omega)]; omega
theorem J_ix {k n : Nat} (h : k < n) (hk : k < 2147483648) : ix (J k) n := ⟨J_nn hk, by rw [J_nat hk]; exact h⟩
theorem J_ne_neg {k : Nat} (h : k < 2147483648) : ¬ J k = -1 := by
  intro e
  have := congrArg Int32.toInt e
  rw [J_toInt h] at this
  revert this
  rw [show ((-1 : Int32)).toInt = -1 from by decide]
  omega
theorem of_ix {x : Int32} {n : Nat} (h : ix x n) : ∃ k, x = J k ∧ k < n ∧ k < 2147483648 := by
  have h0 : (0 : Int) ≤ x.toInt := by
    have := h.1
    rw [Int32.lt_iff_toInt_lt] at this
    have e : (0 : Int32).toInt = 0 := by decide
    rw [e] at this; omega
  refine ⟨x.toInt.toNat, ?_, ?_, ?_⟩
  · apply Int32.toInt_inj.mp
    rw [J_toInt]
    · omega
    · have := Int32.toInt_lt x; omega
  · have := h.2; exact this
  · have := Int32.toInt_lt x; omega
/-- a number from 0 up to a bound -/
theorem of_rng {x : Int32} {n : Nat} (h0 : 0 ≤ x) (h1 : x < J n) (hn : n < 2147483648) : ∃ k, x = J k ∧ k < n := by
  have e0 : (0 : Int32).toInt = 0 := by decide
  rw [Int32.le_iff_toInt_le, e0] at h0
  rw [Int32.lt_iff_toInt_lt, J_toInt hn] at h1
  refine ⟨x.toInt.toNat, ?_, by omega⟩
  apply Int32.toInt_inj.mp
  rw [J_toInt (by omega)]; omega
end PBASE
