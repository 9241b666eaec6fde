section PINV
/-- the image, if one was kept -/
def IM (v0 v13 v14 v15 V : St) : Prop := (v0 15 0 = 0 ∧ V 6 0 = 0) ∨ (v0 15 0 = 1 ∧ V 6 0 = 1 ∧ (∃ k, k ≤ 12 ∧ v0 16 0 = J k ∧ V 2 2 = J k) ∧ HR v13 (V 2) ∧ LR v14 (V 2) ∧ DR v15 (V 2))
/-- what holds between the calls -/
def RI (v0 v1 v3 v4 v5 v6 v7 v10 v12 v13 v14 v15 : St) (v16 v17 : Nat → St) (V : St) : Prop :=
  TR v0 v1 V ∧ v0 2 0 = V 14 0 ∧ (∃ k, k ≤ 12 ∧ v0 6 0 = J k ∧ V 1 2 = J k) ∧ (v3 1 0 = 14 ∧ v4 1 0 = 12) ∧ HR v5 (V 1) ∧ LR v6 (V 1) ∧ DR v7 (V 1) ∧ DW v10 ∧ PR v12 v16 v17 V ∧ IM v0 v13 v14 v15 V
section
variable {v0 v1 v3 v4 v5 v6 v7 v10 v12 v13 v14 v15 : St} {v16 v17 : Nat → St} {V : St}
theorem RI.tr (h : RI v0 v1 v3 v4 v5 v6 v7 v10 v12 v13 v14 v15 v16 v17 V) : TR v0 v1 V := h.1
theorem RI.wr (h : RI v0 v1 v3 v4 v5 v6 v7 v10 v12 v13 v14 v15 v16 v17 V) : v0 2 0 = V 14 0 := h.2.1
theorem RI.tx (h : RI v0 v1 v3 v4 v5 v6 v7 v10 v12 v13 v14 v15 v16 v17 V) : ∃ k, k ≤ 12 ∧ v0 6 0 = J k ∧ V 1 2 = J k := h.2.2.1
theorem RI.rd (h : RI v0 v1 v3 v4 v5 v6 v7 v10 v12 v13 v14 v15 v16 v17 V) : v3 1 0 = 14 ∧ v4 1 0 = 12 := h.2.2.2.1
theorem RI.hr (h : RI v0 v1 v3 v4 v5 v6 v7 v10 v12 v13 v14 v15 v16 v17 V) : HR v5 (V 1) := h.2.2.2.2.1
theorem RI.lr (h : RI v0 v1 v3 v4 v5 v6 v7 v10 v12 v13 v14 v15 v16 v17 V) : LR v6 (V 1) := h.2.2.2.2.2.1
theorem RI.dr (h : RI v0 v1 v3 v4 v5 v6 v7 v10 v12 v13 v14 v15 v16 v17 V) : DR v7 (V 1) := h.2.2.2.2.2.2.1
theorem RI.dw (h : RI v0 v1 v3 v4 v5 v6 v7 v10 v12 v13 v14 v15 v16 v17 V) : DW v10 := h.2.2.2.2.2.2.2.1
theorem RI.pr (h : RI v0 v1 v3 v4 v5 v6 v7 v10 v12 v13 v14 v15 v16 v17 V) : PR v12 v16 v17 V := h.2.2.2.2.2.2.2.2.1
theorem RI.im (h : RI v0 v1 v3 v4 v5 v6 v7 v10 v12 v13 v14 v15 v16 v17 V) : IM v0 v13 v14 v15 V := h.2.2.2.2.2.2.2.2.2
theorem TR.eq {v v' T V V' : St} (h : TR v T V) (e : v' 1 0 = v 1 0) (e8 : V' 8 = V 8) (e9 : V' 9 0 = V 9 0) : TR v' T V' := by
  unfold TR at h ⊢; rw [e, e8, e9]; exact h
theorem IM.eq {v v' V V' : St} (h : IM v v13 v14 v15 V) (e1 : v' 15 0 = v 15 0) (e2 : v' 16 0 = v 16 0) (e3 : V' 6 0 = V 6 0) (e4 : V' 2 = V 2) : IM v' v13 v14 v15 V' := by
  unfold IM at h ⊢; rw [e1, e2, e3, e4]; exact h
abbrev SF : List Nat := [0, 3, 4, 10, 11, 12, 13, 15, 16, 17, 18, 19]
theorem RI.q (h : RI v0 v1 v3 v4 v5 v6 v7 v10 v12 v13 v14 v15 v16 v17 V) {V' v6' v10' : St} (hV : Fr SF V V') (hL : Fr [6] v6 v6') (hD : DW v10') : RI v0 v1 v3 v4 v5 v6' v7 v10' v12 v13 v14 v15 v16 v17 V' := by
  have e1 : V' 1 = V 1 := hV 1 (by simp)
  refine ⟨h.tr.eq rfl (hV 8 (by simp)) (by rw [hV 9 (by simp)]), by rw [hV 14 (by simp)]; exact h.wr, by rw [e1]; exact h.tx, h.rd, by rw [e1]; exact h.hr, by rw [e1]; exact h.lr.fr hL, by rw [e1]; exact h.dr, hD, h.pr.eq (hV 5 (by simp)) (by rw [hV 7 (by simp)]) (by rw [e1]) (by rw [e1]), h.im.eq rfl rfl (by rw [hV 6 (by simp)]) (hV 2 (by simp))⟩
end
/-- a call that changes -/
def QM {α : Type} (x : Option (Int32 × α)) (y : Option (Int32 × St)) (o : α → Nat → Int64) (P : α → St → Prop) : Prop :=
  ∃ c a r V', x = some (c, a) ∧ y = some (r, V') ∧ V' 0 0 = c ∧ (c = 0 → o a 0 = r.toInt64) ∧ P a V'
theorem QM.thr {α : Type} {c : Int32} {a : α} {r : Int32} {V' : St} {o : α → Nat → Int64} {P : α → St → Prop} (h0 : V' 0 0 = c) (hc : c ≠ 0) (hP : P a V') : QM (some (c, a)) (some (r, V')) o P := ⟨c, a, r, V', rfl, rfl, h0, fun q => absurd q hc, hP⟩
theorem QM.ret {α : Type} {a : α} {r : Int32} {V' : St} {o : α → Nat → Int64} {P : α → St → Prop} (h0 : V' 0 0 = 0) (ho : o a 0 = r.toInt64) (hP : P a V') : QM (some (0, a)) (some (r, V')) o P := ⟨0, a, r, V', rfl, rfl, h0, fun _ => ho, hP⟩
-- the tape used up
def usV (V : St) : St := su (su (su (su V 0 0 0) 11 0 (V 9 0)) 9 0 0) 10 0 0
theorem uses_s (n : Nat) (V : St) : m_X12_uses n V = some (usV V) := by
  unfold m_X12_uses usV
  have e : su V 0 0 0 9 = V 9 := su_n _ _ _ _ (by decide)
  rw [nm_s, nm_s, nm_s, nm_s, e]
theorem usV_f (V : St) : usV V 0 0 = 0 ∧ usV V 1 = V 1 ∧ usV V 8 = V 8 ∧ usV V 9 0 = 0 ∧ usV V 11 0 = V 9 0 ∧ usV V 10 0 = 0 ∧ Fr [0, 9, 10, 11] V (usV V) := by
  unfold usV
  refine ⟨?_, ?_, ?_, ?_, ?_, ?_, ?_⟩
  · rw [su_n _ _ _ _ (by decide), su_n _ _ _ _ (by decide), su_n _ _ _ _ (by decide)]; exact su00 _ _
  · rw [su_n _ _ _ _ (by decide), su_n _ _ _ _ (by decide), su_n _ _ _ _ (by decide)]; exact su01 _ _
  · rw [su_n _ _ _ _ (by decide), su_n _ _ _ _ (by decide), su_n _ _ _ _ (by decide), su_n _ _ _ _ (by decide)]
  · rw [su_n _ _ _ _ (by decide), su_e, upd_e]
  · rw [su_n _ _ _ _ (by decide), su_n _ _ _ _ (by decide), su_e, upd_e]
  · rw [su_e, upd_e]
  · exact ((((Fr.rfl _ _).put (by simp) _ _).put (by simp) _ _).put (by simp) _ _).put (by simp) _ _
theorem TR.used {v T V V' : St} (h : TR v T V) (e8 : V' 8 = V 8) (e9 : V' 9 0 = 0) : TR (su v 1 0 0) T V' := by
  obtain ⟨k, -, -, -, h4⟩ := h
  exact ⟨0, by omega, by rw [su_e, upd_e]; rfl, by rw [e9]; rfl, by rw [e8]; exact h4⟩
-- what is told depends on the tape's first bytes alone
theorem told_congr {a b : Nat → Int32} {len : Nat} (h : ∀ j, j < len → a j = b j) : toldS a len = toldS b len := by
  unfold toldS
  congr 1
  refine allN_congr (fun k hk => ?_)
  unfold tdS
  rw [h _ (by omega), h _ (by omega)]
theorem fitG_congr {w : Nat → Int32} {p N s : Nat} {a b : Nat → Int32} (h : ∀ j, j < 2 * N → a j = b j) : fitG w p a N s = fitG w p b N s := by
  unfold fitG
  congr 1
  refine allN_congr (fun k hk => ?_)
  unfold agP
  rw [h _ (by omega), h _ (by omega)]
theorem fitL_congr {w : Nat → Int32} {p N : Nat} {a b : Nat → Int32} (h : ∀ j, j < 2 * N → a j = b j) : ∀ k, fitL w p a N k = fitL w p b N k
  | 0 => rfl
  | k + 1 => by rw [fitL, fitL, fitG_congr h, fitL_congr h k]
theorem fitA_congr {w : Nat → Int32} {p N : Nat} {a b : Nat → Int32} (h : ∀ j, j < 2 * N → a j = b j) : ∀ k, fitA w p a N k = fitA w p b N k
  | 0 => rfl
  | k + 1 => by rw [fitA, fitA, fitG_congr h, fitA_congr h k]
theorem fitL_succ (w : Nat → Int32) (p : Nat) (tp : Nat → Int32) (N k : Nat) : fitL w p tp N (k + 1) = if fitG w p tp N k then fitL w p tp N k ++ [wgS w (J k)] else fitL w p tp N k := by rw [fitL]
theorem fitA_succ (w : Nat → Int32) (p : Nat) (tp : Nat → Int32) (N k : Nat) : fitA w p tp N (k + 1) = if fitG w p tp N k then fitA w p tp N k &&& J k else fitA w p tp N k := by rw [fitA]
theorem hasR {n : Nat} (hn : 5000 < n) {u : St} (hI : WInv (u 1)) {p : Nat} (hp : p < nP (u 1)) {len : Nat} (hl : len ≤ 400) (h2 : len % 2 = 0) (hu : u 11 0 = J len) :
    lp (fun (rc9 : Int32 × Int32 × Int32 → Option (Int32 × Int32)) (x9l : Int32 × Int32 × Int32) =>
bd (m_X12_goneOnes n u) (fun t10 =>
(if t10 < x9l.2.2 then
some (x9l.1, x9l.2.1)
else
bd (m_X12_fits n u (J p) x9l.2.2) (fun t11 =>
bd ((if t11 = 0 then
some (x9l.1, x9l.2.1)
else
nm (x9l.2.1 &&& x9l.2.2) (fun x4_13 =>
some ((x9l.1 + 1), x4_13)))) (fun (t12 : Int32 × Int32) =>
rc9 (t12.1, t12.2, (x9l.2.2 + 1))))))) n (0, inS (u 1) (-1), 0) = some (J (fitL (u 1) p (u 8) (len / 2) (goneK (u 1))).length, fitA (u 1) p (u 8) (len / 2) (goneK (u 1))) := by
  obtain ⟨m, em, hm⟩ := inS_J hI (-1)
  have hK : goneK (u 1) = m + 1 := by unfold goneK; rw [em, J_nat (by omega)]
  rw [hK]
  refine lp_seq (fun k => (J (fitL (u 1) p (u 8) (len / 2) k).length, fitA (u 1) p (u 8) (len / 2) k, J k)) (m + 1) (fun rc k hk => ?_) (fun rc => ?_) (by omega) ?_
  · dsimp only
    rw [goneR hn hI, bd_s, em, if_neg (by rw [J_lt (by omega) (by omega)]; omega), fitR hn hI hp k hl h2 hu, bd_s, fitL_succ, fitA_succ, J_succ k]
    cases fitG (u 1) p (u 8) (len / 2) k with
    | false =>
      rw [if_pos (show b2 false = 0 by decide), bd_s]; rfl
    | true =>
      rw [if_neg (show ¬ b2 true = 0 by decide), nm_s, bd_s]
      dsimp only
      rw [if_pos rfl, if_pos rfl, List.length_append, J_succ]; rfl
  · dsimp only
    rw [goneR hn hI, bd_s, em, if_pos (by rw [J_lt (by omega) (by omega)]; omega)]
  · rfl
theorem cntR {n : Nat} (hn : 5000 < n) {u : St} (hI : WInv (u 1)) {p : Nat} (hp : p < nP (u 1)) {len : Nat} (hl : len ≤ 400) (h2 : len % 2 = 0) (hu : u 11 0 = J len) :
    lp (fun (rc13 : Int32 × Int32 → Option (Int32)) (x13l : Int32 × Int32) =>
bd (m_X12_goneOnes n u) (fun t14 =>
(if t14 < x13l.2 then
some x13l.1
else
bd (m_X12_fits n u (J p) x13l.2) (fun t15 =>
bd ((if t15 = 0 then
some 0
else
some 1)) (fun (t16 : Int32) =>
nm (x13l.1 + t16) (fun x2_17 =>
rc13 (x2_17, (x13l.2 + 1)))))))) n (0, 0) = some (J (fitL (u 1) p (u 8) (len / 2) (goneK (u 1))).length) := by
  obtain ⟨m, em, hm⟩ := inS_J hI (-1)
  have hK : goneK (u 1) = m + 1 := by unfold goneK; rw [em, J_nat (by omega)]
  rw [hK]
  refine lp_seq (fun k => (J (fitL (u 1) p (u 8) (len / 2) k).length, J k)) (m + 1) (fun rc k hk => ?_) (fun rc => ?_) (by omega) ?_
  · dsimp only
    rw [goneR hn hI, bd_s, em, if_neg (by rw [J_lt (by omega) (by omega)]; omega), fitR hn hI hp k hl h2 hu, bd_s, fitL_succ, J_succ k]
    cases fitG (u 1) p (u 8) (len / 2) k with
    | false =>
      rw [if_pos (show b2 false = 0 by decide), bd_s, nm_s, Int32.add_zero]; rfl
    | true =>
      rw [if_neg (show ¬ b2 true = 0 by decide), bd_s, nm_s, if_pos rfl, List.length_append, J_succ]; rfl
  · dsimp only
    rw [goneR hn hI, bd_s, em, if_pos (by rw [J_lt (by omega) (by omega)]; omega)]
  · rfl
end PINV
