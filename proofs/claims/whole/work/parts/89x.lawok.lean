section PLAWOK
theorem iw (k : Nat) : iX12 1 k = upd (upd (upd (fun _ => 0) 6 10) 9 3) 11 1 k := rfl
theorem iw_o {k : Nat} (h1 : k ≠ 6) (h2 : k ≠ 9) (h3 : k ≠ 11) : iX12 1 k = 0 := by rw [iw, upd_n _ _ _ h3, upd_n _ _ _ h2, upd_n _ _ _ h1]
theorem ri0 : RI iX11 (fun _ _ => 0) iX4 iX6 iX3 iX5 iX1 iX1 iX8 iX3 iX5 iX1 (fun _ => iX3) (fun _ => iX1) iX12 := by
  have w0 : iX12 1 0 = 0 := iw_o (by decide) (by decide) (by decide)
  have w1 : iX12 1 1 = 0 := iw_o (by decide) (by decide) (by decide)
  have w6 : iX12 1 6 = 10 := by rw [iw, upd_n _ _ _ (by decide), upd_n _ _ _ (by decide), upd_e]
  have w9 : iX12 1 9 = 3 := by rw [iw, upd_n _ _ _ (by decide), upd_e]
  have w11 : iX12 1 11 = 1 := by rw [iw, upd_e]
  have eP : nP (iX12 1) = 0 := by unfold nP; rw [w0]; rfl
  have eT : nT (iX12 1) = 0 := by unfold nT; rw [w1]; rfl
  have o : ∀ k, k ≠ 6 → k ≠ 9 → k ≠ 11 → iX12 1 k = 0 := fun k a b c => iw_o a b c
  have c12 : ∀ f, f ≠ 1 → f ≠ 14 → ∀ j, iX12 f j = 0 := fun f a b j => by
    unfold iX12
    rw [sA_n _ _ _ a, su_n _ _ _ _ b]
  have c3 : ∀ f, f ≠ 3 → f ≠ 6 → f ≠ 8 → ∀ j, iX3 f j = 0 := fun f a b c j => by
    unfold iX3
    rw [su_n _ _ _ _ c, su_n _ _ _ _ b, su_n _ _ _ _ a]
  have c33 : iX3 3 0 = 10 := by unfold iX3; rw [su_n _ _ _ _ (by decide), su_n _ _ _ _ (by decide), su_e, upd_e]
  have c36 : iX3 6 0 = 3 := by unfold iX3; rw [su_n _ _ _ _ (by decide), su_e, upd_e]
  have c38 : iX3 8 0 = 1 := by unfold iX3; rw [su_e, upd_e]
  have c11 : ∀ f, f ≠ 2 → ∀ j, iX11 f j = 0 := fun f a j => by unfold iX11; rw [su_n _ _ _ _ a]
  refine ⟨⟨0, by omega, by rw [c11 1 (by decide)]; rfl, by rw [c12 9 (by decide) (by decide)]; rfl, fun j hj => ?_⟩, ?_, ⟨0, by omega, by rw [c11 6 (by decide)]; rfl, by rw [o 2 (by decide) (by decide) (by decide)]; rfl⟩, ⟨?_, ?_⟩, ⟨?_, ?_, ?_⟩, .inl ⟨o 3 (by decide) (by decide) (by decide), ?_⟩, ⟨0, by omega, rfl, by rw [o 10 (by decide) (by decide) (by decide)]; rfl, fun a c ha => absurd ha (by omega)⟩, ⟨0, by omega, rfl⟩, ⟨0, 0, by omega, by omega, rfl, rfl, by rw [c12 7 (by decide) (by decide)]; rfl, fun i hi => absurd hi (by omega)⟩, .inl ⟨c11 15 (by decide) 0, c12 6 (by decide) (by decide) 0⟩⟩
  · rw [c12 8 (by decide) (by decide)]; exact ⟨rfl, by unfold isByte; decide⟩
  · unfold iX11 iX12; rw [su_e, upd_e, sA_n _ _ _ (by decide), su_e, upd_e]
  · unfold iX4; rw [su_e, upd_e]
  · unfold iX6; rw [su_e, upd_e]
  · unfold WInv
    rw [eP, eT, w0, w1, w6, o 5 (by decide) (by decide) (by decide)]
    exact ⟨⟨rfl, by omega⟩, ⟨rfl, by omega⟩, ⟨10, rfl, by omega, by omega⟩, ⟨0, rfl, by omega, by omega⟩, fun p hp => absurd hp (by omega), fun p hp => absurd hp (by omega), fun p hp => absurd hp (by omega)⟩
  · unfold HB
    rw [eP, eT, w0, w1, w6, w9, w11, o 5 (by decide) (by decide) (by decide), o 7 (by decide) (by decide) (by decide), o 8 (by decide) (by decide) (by decide), o 4 (by decide) (by decide) (by decide), c33, c36, c38, c3 0 (by decide) (by decide) (by decide), c3 1 (by decide) (by decide) (by decide), c3 2 (by decide) (by decide) (by decide), c3 4 (by decide) (by decide) (by decide), c3 5 (by decide) (by decide) (by decide), c3 7 (by decide) (by decide) (by decide)]
    exact ⟨rfl, rfl, rfl, rfl, rfl, rfl, rfl, rfl, rfl, fun p hp => absurd hp (by omega), fun p hp => absurd hp (by omega), fun p hp => absurd hp (by omega)⟩
  · intro q hq
    rw [eP] at hq; exact absurd hq (by omega)
  · unfold iX5; rw [su_e, upd_e]
/-- for every script, the law's function says 1 -/
theorem lawOk (L : Nat) (xs : Nat → Int32) (hL : L ≤ 3072) : ∃ n : Nat, m_law n L xs iX11 (fun _ _ => 0) iX10 iX4 iX6 iX3 iX5 iX1 iX3 iX5 iX1 iX2 iX8 iX3 iX5 iX1 (fun _ => iX3) (fun _ => iX1) iX12 (fun _ => 0) = some 1 := by
  obtain ⟨r, e, rfl⟩ := lawLoop (n := 100000) (by omega) hL xs iX11 (fun _ _ => 0) iX10 iX4 iX6 iX3 iX5 iX1 iX3 iX5 iX1 iX2 iX8 iX3 iX5 iX1 (fun _ => iX3) (fun _ => iX1) iX12 (fun _ => 0) ri0
  exact ⟨100000, e⟩
end PLAWOK
