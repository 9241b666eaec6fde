section CORE
/-- what an object and its rows hold: by field, by place (a number that is one alone: place 0) -/
abbrev St : Type := Nat → Nat → Int32
def sA (v : St) (f : Nat) (g : Nat → Int32) : St := fun h => if h = f then g else v h
def su (v : St) (f k : Nat) (x : Int32) : St := sA v f (upd (v f) k x)
/-- a loop, so many rounds at most -/
def lp {σ ρ : Type} (body : (σ → Option ρ) → σ → Option ρ) : Nat → σ → Option ρ
  | 0, _ => none
  | n + 1, x => body (lp body n) x
theorem lp_ind {σ ρ : Type} {body : (σ → Option ρ) → σ → Option ρ} {res : ρ} {P : σ → Prop} (step : ∀ (rc : σ → Option ρ) (x : σ), (∀ y, rc y = some res → P y) → body rc x = some res → P x) : ∀ (n : Nat) (x : σ), lp body n x = some res → P x
  | 0, _, h => by cases h
  | n + 1, x, h => step (lp body n) x (lp_ind step n) h
theorem gd_some {ρ : Type} {c : Prop} {i : Decidable c} {k : Option ρ} {r : ρ} (h : @ite _ c i k none = some r) : c ∧ k = some r := by
  by_cases hc : c
  · rw [if_pos hc] at h; exact ⟨hc, h⟩
  · rw [if_neg hc] at h; cases h
theorem it_pos {ρ : Type} {c : Prop} {i : Decidable c} {a b : Option ρ} {r : ρ} (hc : c) (h : @ite _ c i a b = some r) : a = some r := by rw [if_pos hc] at h; exact h
theorem it_neg {ρ : Type} {c : Prop} {i : Decidable c} {a b : Option ρ} {r : ρ} (hc : ¬ c) (h : @ite _ c i a b = some r) : b = some r := by rw [if_neg hc] at h; exact h
def bd {α β : Type} (x : Option α) (f : α → Option β) : Option β := match x with
  | none => none
  | some a => f a
theorem bd_some {α β : Type} {x : Option α} {f : α → Option β} {r : β} (h : bd x f = some r) : ∃ a, x = some a ∧ f a = some r := by
  cases x with
  | none => cases h
  | some a => exact ⟨a, rfl, h⟩
def nm {α β : Type} (x : α) (f : α → Option β) : Option β := f x
theorem nm_some {α β : Type} {x : α} {f : α → Option β} {r : β} (h : nm x f = some r) : ∃ a, a = x ∧ f a = some r := ⟨x, rfl, h⟩
/-- a place of a row of n -/
abbrev ix (i : Int32) (n : Nat) : Prop := ¬ i < 0 ∧ i.toNatClampNeg < n
theorem ix_in {i : Int32} {n : Nat} (h : ix i n) : vp_in i n := fun z => z.elim h.1 (fun q => absurd h.2 (Nat.not_lt.mpr q))
abbrev zb (x : Int32) : Int32 := vp_nar .boolean x
-- blocks of cells side by side
theorem fl_set : ∀ {bs : List va_W} {k j : Nat} {b : va_W} {q : Nat × va_E}, bs[k]? = some b → b[j]? = some q → ∃ i : Nat, bs.flatten[i]? = some q ∧ ∀ q', bs.flatten.set i q' = (bs.set k (b.set j q')).flatten
  | [], k, j, b, q, hk, _ => by simp at hk
  | b0 :: bs, 0, j, b, q, hk, hj => by
    rw [List.getElem?_cons_zero] at hk
    cases hk
    have hl : j < b0.length := (List.getElem?_eq_some_iff.mp hj).1
    refine ⟨j, ?_, fun q' => ?_⟩
    · rw [List.flatten_cons, List.getElem?_append_left hl]; exact hj
    · rw [List.flatten_cons, List.set_cons_zero, List.flatten_cons, List.set_append_left _ _ hl]
  | b0 :: bs, k + 1, j, b, q, hk, hj => by
    rw [List.getElem?_cons_succ] at hk
    obtain ⟨i, h1, h2⟩ := fl_set hk hj
    refine ⟨b0.length + i, ?_, fun q' => ?_⟩
    · rw [List.flatten_cons, List.getElem?_append_right (Nat.le_add_right _ _), Nat.add_sub_cancel_left]; exact h1
    · rw [List.flatten_cons, List.set_cons_succ, List.flatten_cons, List.set_append_right _ _ (Nat.le_add_right _ _), Nat.add_sub_cancel_left, h2]
theorem fl_at {bs : List va_W} {k j : Nat} {b : va_W} {q : Nat × va_E} (hk : bs[k]? = some b) (hj : b[j]? = some q) : ∃ i : Nat, bs.flatten[i]? = some q := by
  obtain ⟨i, h, -⟩ := fl_set hk hj
  exact ⟨i, h⟩
def pB : List va_W → List Nat → List va_W → List va_W
  | bs, k :: ks, n :: ns => pB (bs.set k n) ks ns
  | bs, _, _ => bs
theorem fl_pick : ∀ {bs : List va_W} {k : Nat} {b : va_W}, bs[k]? = some b → ∀ n : va_W, (bs.set k n).flatten.Perm (n ++ (bs.set k []).flatten)
  | [], k, b, hk, _ => by simp at hk
  | b0 :: bs, 0, b, _, n => by simp
  | b0 :: bs, k + 1, b, hk, n => by
    rw [List.getElem?_cons_succ] at hk
    have h := fl_pick hk n
    rw [List.set_cons_succ, List.set_cons_succ, List.flatten_cons, List.flatten_cons]
    refine (List.Perm.append_left b0 h).trans ?_
    rw [← List.append_assoc, ← List.append_assoc]
    exact List.Perm.append_right _ List.perm_append_comm
theorem va_P_iff {D : va_G} {cl : List vw_C} {ws : va_W} {H : Heap} : va_P D cl ws H ↔ ∀ q ∈ ws, va_at D cl q H := by
  constructor
  · intro h q hq
    obtain ⟨i, hi⟩ := List.getElem?_of_mem hq
    exact h i q hi
  · intro h k q hk
    exact h q (List.mem_of_getElem? hk)
theorem va_D_iff {A : Nat → Prop} {ws : va_W} : va_D A ws ↔ ws.Pairwise (fun p q => p.1 ≠ q.1) ∧ ∀ q ∈ ws, A q.1 := by
  constructor
  · intro h
    refine ⟨?_, fun q hq => ?_⟩
    · rw [List.pairwise_iff_getElem]
      intro i j hi hj hij he
      have := h.1 i j ws[i] ws[j] (List.getElem?_eq_getElem hi) (List.getElem?_eq_getElem hj) he
      omega
    · obtain ⟨i, hi⟩ := List.getElem?_of_mem hq
      exact h.2 i q hi
  · rintro ⟨h1, h2⟩
    rw [List.pairwise_iff_getElem] at h1
    refine ⟨fun i j p q hi hj he => ?_, fun k q hk => h2 q (List.mem_of_getElem? hk)⟩
    obtain ⟨li, ei⟩ := List.getElem?_eq_some_iff.mp hi
    obtain ⟨lj, ej⟩ := List.getElem?_eq_some_iff.mp hj
    rcases Nat.lt_trichotomy i j with g | g | g
    · exact absurd (by rw [ei, ej]; exact he) (h1 i j li lj g)
    · exact g
    · exact absurd (by rw [ei, ej]; exact he.symm) (h1 j i lj li g)
theorem va_P.perm {D : va_G} {cl : List vw_C} {ws ws' : va_W} {H : Heap} (hp : ws.Perm ws') (h : va_P D cl ws H) : va_P D cl ws' H := va_P_iff.mpr (fun q hq => va_P_iff.mp h q (hp.mem_iff.mpr hq))
theorem va_D.perm {A : Nat → Prop} {ws ws' : va_W} (hp : ws.Perm ws') (h : va_D A ws) : va_D A ws' := by
  obtain ⟨h1, h2⟩ := va_D_iff.mp h
  exact va_D_iff.mpr ⟨(hp.pairwise_iff (fun {x y} g => Ne.symm g)).mp h1, fun q hq => h2 q (hp.mem_iff.mpr hq)⟩
/-- behind a call: what came back, beside the rest -/
theorem jn_perm {A0 : Nat → Prop} {D : va_G} {cl : List vw_C} {wc wr w1 : va_W} {H H1 : Heap} (hP : va_P D cl (wc ++ wr) H) (hD : va_D A0 (wc ++ wr))
    (hk : ∀ q : Nat, q < H.size → ¬ va_A wc H.size q → H1[q]? = H[q]?) (hF : ∀ q, va_A wc H.size q → A0 q) (hP1 : va_P D cl w1 H1) (hD1 : va_D (va_A wc H.size) w1) : va_P D cl (w1 ++ wr) H1 ∧ va_D A0 (w1 ++ wr) := by
  rw [va_P_iff] at hP hP1
  rw [va_D_iff] at hD hD1
  rw [List.pairwise_append] at hD
  obtain ⟨⟨d1, d2, d3⟩, d4⟩ := hD
  have apart : ∀ q ∈ wr, q.1 < H.size ∧ ¬ va_A wc H.size q.1 := by
    intro q hq
    have hl := (hP q (List.mem_append_right _ hq)).lt
    refine ⟨hl, fun h => ?_⟩
    rcases h with ⟨k, e, h⟩ | h
    · exact d3 (q.1, e) (List.mem_of_getElem? h) q hq rfl
    · omega
  refine ⟨va_P_iff.mpr fun q hq => ?_, va_D_iff.mpr ⟨?_, fun q hq => ?_⟩⟩
  · rcases List.mem_append.mp hq with h | h
    · exact hP1 q h
    · obtain ⟨g1, g2⟩ := apart q h
      exact (hP q (List.mem_append_right _ h)).kept (hk q.1 g1 g2)
  · rw [List.pairwise_append]
    refine ⟨hD1.1, d2, fun x hx y hy he => ?_⟩
    exact (apart y hy).2 (by rw [← he]; exact hD1.2 x hx)
  · rcases List.mem_append.mp hq with h | h
    · exact hF _ (hD1.2 q h)
    · exact d4 q (List.mem_append_right _ h)
end CORE
