/-! THE CLAIM OUT OF ONE WALK OF THE LAW'S BODY. Your part is whole_start (and what it stands on); all else here is the same for every law, but numbers. -/
def R_law : String := "SeeSawHillLaw"
def lw_P (b : Addr) (xs : List Int32) (args : Array Value) (s : State) : Prop := args = #[.ref b] ∧ s.IntsAt b xs ∧ xs.length ≤ 3072 ∧ (Jvm.Cond.and given_1 narrow_1).before args s = true
def lw_Q (_ : Array Value) (s : State) (o : Outcome) (t : State) : Prop := o = .returned (some (.int 1)) ∧ Framed s o t [] 601024 7293033
def lw_Z (below : List Frame) (a : Array Value) (s : State) : State → Prop := fun t => ∃ o, t.status = .running ∧ Ended t below o ∧ lw_Q a s o t
/-- the law's own end, with 1 on the stack, nothing written that was there before, its room as the claim has it -/
theorem lw_ret {p : Program} {l : Launch} {e : Env} {s : State} {m : MethodId} {below : List Frame} {meth : Method} {c : Code} {b : Nat} (hx : p.tables.exec = Jvm.exec) (hb : c.code = code) (hr : meth.sig.returnType = ret) (hlocks : meth.locks = false) {pc : Nat} {H : Heap} {ls : Array Slot} (hdg : decode code pc = .ok (.ireturn, 1)) : W p l e room_1 s m #[Value.ref b] below meth c H [] 601024 7293033 (lw_Z below #[Value.ref b] s) (F0 m pc ls [.int 1]) := by
  intro T hT X
  obtain ⟨fs, hret, hrun, hended, hW, hframe⟩ := X.leave (v := some (.int 1)) (hlocks := hlocks) (fun h => by rw [hr] at h; cases h)
  have hmeth' : T.vm.method? m = some meth := X.method'
  refine ⟨T.setFrames fs, ?_, .returned (some (.int 1)), hrun, hended, rfl, ⟨_, rfl⟩, hW, hframe⟩
  jvm_step X.here [X.here.top, hx, hb, hdg, hmeth', hr, ret, narrow_b1]
  (try refine ⟨rfl, ?_⟩); (try refine ⟨rfl, ?_⟩)
  first | (intro acts; rw [hret _ acts rfl rfl rfl]) | rw [hret _ _ rfl rfl rfl]
  exact Steps.refl _
/-- what holds at the law's entry: the machine, the code, the tables' words (any of lw_tbl by 'hts w (by decide +kernel)'), the script of L ints xs at the cell b, what the Statement gives of the start (any of its parts by flat_of_before) -/
def lw_At (p : Program) (s : State) (m : MethodId) (meth : Method) (c : Code) (b L : Nat) (xs : Nat → Int32) : Prop :=
  p.tables.exec = Jvm.exec ∧ c.code = code ∧ meth.sig.returnType = ret ∧ c.maxLocals = 7 ∧ s.vm.findClass R_law = some m.cls ∧ (∀ w ∈ lw_tbl, w.before #[Value.ref b] s = true) ∧ va_X b L xs s s.heap ∧ b < s.heap.size ∧ meth.locks = false ∧ (Jvm.Cond.and given_1 narrow_1).before #[Value.ref b] s = true
section STARTS
def stW : List Cond := [Cond.laysStatic "java/lang/String" "COMPACT_STRINGS" "Z", Cond.initialized "java/lang/String", Cond.laysStatic "jdk/internal/util/Preconditions" "SIOOBE_FORMATTER" "Ljava/util/function/BiFunction;", Cond.initialized "jdk/internal/util/Preconditions", Cond.laysStatic Bundle.tN "UNASSIGNED_STACK" Bundle.steD, Cond.laysStatic Bundle.tN "SUPPRESSED_SENTINEL" Bundle.listD, Cond.initialized Bundle.tN, nW1, nW2, nW3, Cond.arrayOver (.object RX3), Cond.arrayOver (.object RX1), Cond.arrayClass .int, Cond.arrayClass .boolean, Cond.arrayClass .byte, Cond.arrayClass .long]
def tmS (i : Nat) : Term := .string (sTab.getD i ("", 0, "")).1 (sTab.getD i ("", 0, "")).2.1
abbrev gvn : Cond := Jvm.Cond.and given_1 narrow_1
set_option maxRecDepth 100000 in
theorem st_ex : ∀ i, i < 26 → Cond.exactly (tmS i) "java/lang/String" ∈ flatC gvn := by decide +kernel
set_option maxRecDepth 100000 in
theorem st_co : ∀ i, i < 26 → Cond.eq (.field (tmS i) "java/lang/String" "coder" "B") (.int 0) ∈ flatC gvn := by decide +kernel
set_option maxRecDepth 100000 in
theorem st_ar : ∀ i, i < 26 → Cond.arrayOf (.field (tmS i) "java/lang/String" "value" "[B") .byte ∈ flatC gvn := by decide +kernel
set_option maxRecDepth 100000 in
theorem st_le : ∀ i, i < 26 → Cond.eq (.length (.field (tmS i) "java/lang/String" "value" "[B")) (.int (Int32.ofNat (sLen.getD i 0))) ∈ flatC gvn := by decide +kernel
set_option maxRecDepth 100000 in
def sPos : List Nat := [117, 256, 291, 300, 247, 263, 272, 282, 306, 314, 322, 330, 341, 392, 401, 411, 419, 427, 377, 383, 370, 435, 442, 348, 356, 364]
theorem st_er : ∀ i, i < 26 → ((flatC gvn).drop (sPos.getD i 0)).take (sLen.getD i 0) = (List.range (sLen.getD i 0)).map (fun j => Cond.eq (.elem (.field (tmS i) "java/lang/String" "value" "[B") (.int (Int32.ofNat j))) (.int ((sByt.getD i []).getD j 0))) := by decide +kernel
theorem st_el (i : Nat) (hi : i < 26) (j : Nat) (hj : j < sLen.getD i 0) : Cond.eq (.elem (.field (tmS i) "java/lang/String" "value" "[B") (.int (Int32.ofNat j))) (.int ((sByt.getD i []).getD j 0)) ∈ flatC gvn := by
  have h : Cond.eq (.elem (.field (tmS i) "java/lang/String" "value" "[B") (.int (Int32.ofNat j))) (.int ((sByt.getD i []).getD j 0)) ∈ ((flatC gvn).drop (sPos.getD i 0)).take (sLen.getD i 0) := by
    rw [st_er i hi]
    exact List.mem_map.mpr ⟨j, List.mem_range.mpr hj, rfl⟩
  exact List.mem_of_mem_drop (List.mem_of_mem_take h)
set_option maxRecDepth 100000 in
theorem st_rf : ∀ i, i < 26 → Cond.stringRef (sTab.getD i ("", 0, "")).1 (sTab.getD i ("", 0, "")).2.1 (sTab.getD i ("", 0, "")).2.2 ∈ lw_tbl := by decide +kernel
set_option maxRecDepth 100000 in
theorem st_nc : ∀ q ∈ nX, Cond.not (.castable q.1 q.2) ∈ flatC gvn := by decide +kernel
set_option maxRecDepth 100000 in
theorem st_ca : ∀ E ∈ eX, Cond.castable E E ∈ lw_tbl := by decide +kernel
set_option maxRecDepth 100000 in
theorem st_de : ∀ N ∈ dX, Cond.declares (Bundle.init0 N) ∈ lw_tbl := by decide +kernel
set_option maxRecDepth 100000 in
theorem st_cs : Cond.eq (.static "java/lang/String" "COMPACT_STRINGS" "Z") (.int 1) ∈ flatC gvn := by decide +kernel
set_option maxRecDepth 100000 in
theorem st_sf : Cond.isRef (.static "jdk/internal/util/Preconditions" "SIOOBE_FORMATTER" "Ljava/util/function/BiFunction;") ∈ flatC gvn := by decide +kernel
set_option maxRecDepth 100000 in
theorem st_us : Cond.isRef (.static Bundle.tN "UNASSIGNED_STACK" Bundle.steD) ∈ flatC gvn := by decide +kernel
set_option maxRecDepth 100000 in
theorem st_ss : Cond.isRef (.static Bundle.tN "SUPPRESSED_SENTINEL" Bundle.listD) ∈ flatC gvn := by decide +kernel
set_option maxRecDepth 100000 in
theorem st_w : ∀ w ∈ stW, w ∈ lw_tbl := by decide +kernel
theorem ev_start {args : Array Value} {s : State} {A : Nat → Prop} (hgv : gvn.before args s = true) (hts : ∀ w ∈ lw_tbl, w.before args s = true) (hA : ∀ a : Nat, a < s.heap.size → ¬ A a) : ∃ ek : EK, EV ek A s s.heap := by
  have hs := flat_of_before _ hgv
  have h0 : ∀ i : Nat, ∃ q : Nat × Nat, i < 26 → (tmS i).eval args s none [] s = some (.ref q.1) ∧ va_O "java/lang/String" q.1 A s s.heap ∧ va_OF "java/lang/String" "coder" "B" (.int 0) q.1 A s s.heap ∧ va_OF "java/lang/String" "value" "[B" (.ref q.2) q.1 A s s.heap ∧ va_T .byte q.2 (sLen.getD i 0) (fun j => .int ((sByt.getD i []).getD j 0)) A s s.heap := by
    intro i
    by_cases hi : i < 26
    · obtain ⟨adK, adV, h1, h2⟩ := vk_Sof (N := 1) (tm := fun _ => tmS i) (len := [sLen.getD i 0]) (byt := [sByt.getD i []]) (A := A) (args := args) (s := s)
        (fun j hj => by obtain rfl : j = 0 := by omega
                        exact sLen_lt i hi)
        (fun _ _ => hs _ (st_ex i hi)) (fun _ _ => hs _ (st_co i hi)) (fun _ _ => hs _ (st_ar i hi))
        (fun j hj => by obtain rfl : j = 0 := by omega
                        exact hs _ (st_le i hi))
        (fun j hj t ht => by obtain rfl : j = 0 := by omega
                             exact hs _ (st_el i hi t ht))
        (fun a b ha hb hab => absurd (by omega : a = b) hab) hA
      exact ⟨(adK 0, adV 0), fun _ => ⟨h2 0 (by omega), h1.1 0 (by omega)⟩⟩
    · exact ⟨(0, 0), fun h => absurd h hi⟩
  obtain ⟨ad, had⟩ := Classical.axiomOfChoice h0
  have hw : ∀ (k : Nat) (w : Cond), stW[k]? = some w → w.before args s = true := fun k w h => hts w (st_w w (List.mem_of_getElem? h))
  refine ⟨(fun i => (ad i).1, fun i => (ad i).2), fun i hi => (had i hi).2, fun i q hq => ?_, va_Zof (hw 0 _ rfl) (hw 1 _ rfl) (va_eqt (hs _ st_cs)) hA, va_Zqof (hw 2 _ rfl) (hw 3 _ rfl) (hs _ st_sf) hA, vx_Zqof (hw 4 _ rfl) (hw 6 _ rfl) (hs _ st_us) hA, vx_Zqof (hw 5 _ rfl) (hw 6 _ rfl) (hs _ st_ss) hA, va_Nw.of rfl (hw 7 _ rfl), va_Nw.of rfl (hw 8 _ rfl), va_Nw.of rfl (hw 9 _ rfl), fun E hE => va_Nw.of rfl (hts _ (st_ca E hE)), fun N hN => va_Nw.of rfl (hts _ (st_de N hN)), fun q hq => va_Nc.of (hs _ (st_nc q hq)), va_AO.of (hw 10 _ rfl), va_AO.of (hw 11 _ rfl)⟩
  have hi : i < 26 := (List.getElem?_eq_some_iff.mp hq).1
  have e : sTab.getD i ("", 0, "") = q := by rw [List.getD_eq_getElem?_getD, hq]; rfl
  have h1 := hts _ (st_rf i hi)
  have h2 := (had i hi).1
  unfold tmS at h2
  rw [e] at h1 h2
  exact vk_R.of h1 h2
set_option maxRecDepth 100000 in
theorem k_start {args : Array Value} {s : State} (hts : ∀ w ∈ lw_tbl, w.before args s = true) : ∃ (D : va_G) (y : Nat → ClassId), va_K D vwCl (tyG y) s := by
  obtain ⟨cX1, iX1', hX1⟩ := u_known (C := RX1) (T := TX1) (N := 2) (n := 2) hts (fun w hw => by obtain ⟨j, hj, rfl⟩ := List.mem_map.mp hw; exact (List.mem_filter.mp (iW0_X1 j (List.mem_range.mp hj))).1) (hts _ (List.mem_filter.mp q1_193).1)
  obtain ⟨cX2, iX2', hX2⟩ := u_known (C := RX2) (T := TX2) (N := 4) (n := 4) hts (fun w hw => by obtain ⟨j, hj, rfl⟩ := List.mem_map.mp hw; exact (List.mem_filter.mp (iW0_X2 j (List.mem_range.mp hj))).1) (hts _ (List.mem_filter.mp q2_10).1)
  obtain ⟨cX3, iX3', hX3⟩ := u_known (C := RX3) (T := TX3) (N := 20) (n := 20) hts (fun w hw => by obtain ⟨j, hj, rfl⟩ := List.mem_map.mp hw; exact (List.mem_filter.mp (iW0_X3 j (List.mem_range.mp hj))).1) (hts _ (List.mem_filter.mp q1_61).1)
  obtain ⟨cX4, iX4', hX4⟩ := u_known (C := RX4) (T := TX4) (N := 4) (n := 4) hts (fun w hw => by obtain ⟨j, hj, rfl⟩ := List.mem_map.mp hw; exact (List.mem_filter.mp (iW0_X4 j (List.mem_range.mp hj))).1) (hts _ (List.mem_filter.mp q1_207).1)
  obtain ⟨cX5, iX5', hX5⟩ := u_known (C := RX5) (T := TX5) (N := 7) (n := 7) hts (fun w hw => by obtain ⟨j, hj, rfl⟩ := List.mem_map.mp hw; exact (List.mem_filter.mp (iW0_X5 j (List.mem_range.mp hj))).1) (hts _ (List.mem_filter.mp q1_164).1)
  obtain ⟨cX6, iX6', hX6⟩ := u_known (C := RX6) (T := TX6) (N := 4) (n := 4) hts (fun w hw => by obtain ⟨j, hj, rfl⟩ := List.mem_map.mp hw; exact (List.mem_filter.mp (iW0_X6 j (List.mem_range.mp hj))).1) (hts _ (List.mem_filter.mp q1_237).1)
  obtain ⟨cX8, iX8', hX8⟩ := u_known (C := RX8) (T := TX8) (N := 4) (n := 4) hts (fun w hw => by obtain ⟨j, hj, rfl⟩ := List.mem_map.mp hw; exact (List.mem_filter.mp (iW0_X8 j (List.mem_range.mp hj))).1) (hts _ (List.mem_filter.mp q2_31).1)
  obtain ⟨cX10, iX10', hX10⟩ := u_known (C := RX10) (T := TX10) (N := 4) (n := 4) hts (fun w hw => by obtain ⟨j, hj, rfl⟩ := List.mem_map.mp hw; exact (List.mem_filter.mp (iW0_X10 j (List.mem_range.mp hj))).1) (hts _ (List.mem_filter.mp q1_38).1)
  obtain ⟨cX11, iX11', hX11⟩ := u_known (C := RX11) (T := TX11) (N := 20) (n := 20) hts (fun w hw => by obtain ⟨j, hj, rfl⟩ := List.mem_map.mp hw; exact (List.mem_filter.mp (iW0_X11 j (List.mem_range.mp hj))).1) (hts _ (List.mem_filter.mp q1_30).1)
  obtain ⟨cX12, iX12', hX12⟩ := u_known (C := RX12) (T := TX12) (N := 20) (n := 20) hts (fun w hw => by obtain ⟨j, hj, rfl⟩ := List.mem_map.mp hw; exact (List.mem_filter.mp (iW0_X12 j (List.mem_range.mp hj))).1) (hts _ (List.mem_filter.mp q6_63).1)
  have hw : ∀ (k : Nat) (w : Cond), stW[k]? = some w → w.before args s = true := fun k w h => hts w (st_w w (List.mem_of_getElem? h))
  have prim : ∀ ty : FieldType, (∀ C, ty ≠ .object C) → (Cond.arrayClass ty).before args s = true → ∃ cA : ClassId, ArrOfT s cA ty ∧ va_RA s cA ty := by
    intro ty hn h
    obtain ⟨cA, kA, comp, h1, h2, h3⟩ := Cond.arrayClass_spec h
    refine ⟨cA, fun n z => ⟨(fun k h => by cases h), kA, h2, comp, h3⟩, ?_⟩
    cases ty with
    | object C => exact absurd rfl (hn C)
    | _ => exact h1
  have obj : ∀ C : String, (Cond.arrayOver (.object C)).before args s = true → ∃ cA : ClassId, ArrOfT s cA (.object C) ∧ va_RA s cA (.object C) := by
    intro C h
    obtain ⟨comp, cA, kA, h1, -, h2, h3, h4⟩ := Cond.arrayOver_spec h
    exact ⟨cA, fun n z => ⟨(fun k h => by cases h), kA, h2, comp, h3⟩, kA, comp, h2, h3, h1, h4⟩
  obtain ⟨y0, hy0⟩ := prim .int (fun _ h => by cases h) (hw 12 _ rfl)
  obtain ⟨y1, hy1⟩ := prim .boolean (fun _ h => by cases h) (hw 13 _ rfl)
  obtain ⟨y2, hy2⟩ := prim .byte (fun _ h => by cases h) (hw 14 _ rfl)
  obtain ⟨y3, hy3⟩ := prim .long (fun _ h => by cases h) (hw 15 _ rfl)
  obtain ⟨y4, hy4⟩ := obj RX3 (hw 10 _ rfl)
  obtain ⟨y5, hy5⟩ := obj RX1 (hw 11 _ rfl)
  refine ⟨(fun k => [cX1, cX2, cX3, cX4, cX5, cX6, cX8, cX10, cX11, cX12].getD k cX1, fun k => [iX1', iX2', iX3', iX4', iX5', iX6', iX8', iX10', iX11', iX12'].getD k iX1'), fun k => [y0, y1, y2, y3, y4, y5].getD k y0, fun k q hq => ?_, fun k q hq => ?_⟩
  · match k, hq with
    | 0, hq => cases hq; exact hX1
    | 1, hq => cases hq; exact hX2
    | 2, hq => cases hq; exact hX3
    | 3, hq => cases hq; exact hX4
    | 4, hq => cases hq; exact hX5
    | 5, hq => cases hq; exact hX6
    | 6, hq => cases hq; exact hX8
    | 7, hq => cases hq; exact hX10
    | 8, hq => cases hq; exact hX11
    | 9, hq => cases hq; exact hX12
    | k + 10, hq => simp [vwCl] at hq
  · match k, hq with
    | 0, hq => cases hq; exact hy0
    | 1, hq => cases hq; exact hy1
    | 2, hq => cases hq; exact hy2
    | 3, hq => cases hq; exact hy3
    | 4, hq => cases hq; exact hy4
    | 5, hq => cases hq; exact hy5
    | k + 6, hq => simp [tyG] at hq
end STARTS
set_option maxHeartbeats 40000000 in
set_option maxRecDepth 100000 in
theorem start_of {p : Program} {e : Env} {s : State} {m : MethodId} {below : List Frame} {meth : Method} {c : Code} (l : Launch) (hflags : l.flags = flags0) {b L : Nat} {xs : Nat → Int32} (n : Nat) (hpure : m_law n L xs iX11 (fun _ _ => 0) iX10 iX4 iX6 iX3 iX5 iX1 iX3 iX5 iX1 iX2 iX8 iX3 iX5 iX1 (fun _ => iX3) (fun _ => iX1) iX12 (fun _ => 0) = some 1) (C0 : lw_At p s m meth c b L xs) : W p l e room_1 s m #[Value.ref b] below meth c s.heap [] 0 0 (lw_Z below #[Value.ref b] s) (entryFrame m ([Value.ref b] : List Value).toArray 7) := by
  obtain ⟨hx, hb, hr, hml, hown, hts, hX, hbl, hlocks, hgv⟩ := C0
  have hlt : l.stackTraces = false := by
    unfold Launch.stackTraces
    rw [hflags]
    decide +kernel
  obtain ⟨D, y, hK⟩ := k_start hts
  obtain ⟨ek, hE⟩ := ev_start (A := fun q : Nat => s.heap.size ≤ q) hgv hts (fun a h => Nat.not_le.mpr h)
  have hbA : ¬ (fun q : Nat => s.heap.size ≤ q) b := Nat.not_le.mpr hbl
  have F : Fx p s m #[Value.ref b] c cL_law_ RL (Cond.initialized RL :: WALL) 7 D y ek (fun q : Nat => s.heap.size ≤ q) := ⟨⟨hx, hb, hml, hown, fun w hw => by
    rcases List.mem_cons.mp hw with rfl | hw
    · exact hts _ (List.mem_filter.mp q1_0).1
    · exact hts w (List.mem_filter.mp hw).1⟩, hK, fun _ h => h, hE⟩
  have hl := lv_entry ([.ref b]) (n := 7) (Nat.le_of_ble_eq_true rfl)
  rw [lg_entry_eq]
  suffices hgo : At p l e room_1 s m #[Value.ref b] below meth c (lw_Z below #[Value.ref b] s) D (fun q : Nat => s.heap.size ≤ q) 7 0 0 0 (lv_args 0 [.ref b]) [] [] from
    hgo s.heap [] _ (fun k q h => by simp at h) ⟨fun i j p q h => by simp at h, fun k q h => by simp at h⟩ va_S.rf hl
  refine a_lv (lv' := [(0, .ref b)]) rfl ?_
  refine a_new (pc := 0) (cells := 0) (slots := 0) (ci := 8) (fs := [.null, .int 0, .int 0, .null, .null, .null, .int 0, .null, .null, .null, .null, .null, .null, .null, .null, .int 0, .int 0, .null, .null, .null]) F iW_X11 tyX11 tyX11_ok (tl q1_29) (tl q1_30) (tl q1_1) rfl dv_X11 (Nat.le_of_ble_eq_true rfl) (Nat.le_of_ble_eq_true rfl) dL_law__0 (fun q1 => ?_)
  refine a_bs (bs' := [[(q1, .inr (8, [.null, .int 0, .int 0, .null, .null, .null, .int 0, .null, .null, .null, .null, .null, .null, .null, .null, .int 0, .int 0, .null, .null, .null]))]]) (cells' := 1) (slots' := 20) rfl rfl rfl ?_
  refine a_dup (pc := 3) F dL_law__3 rfl ?_
  refine a_callI (pc := 4) (cells := 1) (slots := 20) F 0 (c_X11_init l D y ek q1) (cwI 0 F.1.2.2.2.2 (gI q1_33) rfl rfl rfl (F.1.2.2.2.2 _ (tl q1_1)) (F.1.2.2.2.2 _ (tl q1_31)) (F.1.2.2.2.2 _ (tl q1_32)) rfl (by decide +kernel) ⟨Nat.le_of_ble_eq_true rfl, Nat.le_of_ble_eq_true rfl⟩) rfl rfl rfl (Nat.le_of_ble_eq_true rfl) ⟨Nat.le_of_ble_eq_true rfl, Nat.le_of_ble_eq_true rfl⟩ dL_law__4 (fun aa haa => ?_)
  subst haa
  refine a_bs (bs' := [[], bX11 y (aa 0) (aa 1 0) (aa 2 0) (aa 3 0) (aa 4 0) (aa 5 0) (aa 6 0) (aa 7 0) (aa 8 0) (aa 9 0) (aa 10 0) (aa 11 0) (aa 12 0) (aa 13 0) (aa 14 0) (aa 15 0) iX11, bAB400 y (aa 1) (fun _ _ => 0), bX10 y (aa 2) iX10, bX4 y (aa 3) (aa 2 0) (aa 8 0) iX4, bX6 y (aa 4) (aa 2 0) (aa 9 0) iX6, bX3 y (aa 5) iX3, bX5 y (aa 6) iX5, bX1 y (aa 7) iX1, bX3 y (aa 8) iX3, bX5 y (aa 9) iX5, bX1 y (aa 10) iX1, bX2 y (aa 11) iX2, bX8 y (aa 12) (fun i => aa (20 + i)) (fun i => aa (40 + i)) iX8, bX3 y (aa 13) iX3, bX5 y (aa 14) iX5, bX1 y (aa 15) iX1, bPH y (fun i => aa (20 + i)) (fun _ => iX3), bPD y (fun i => aa (40 + i)) (fun _ => iX1)]) (cells' := 242) (slots' := 10403) rfl rfl rfl ?_
  refine a_astoren (pc := 7) (lv' := [(0, .ref b), (1, .ref (aa 0 0))]) F [1, 0] dL_law__7 rfl (by decide) rfl ?_
  refine a_new (pc := 8) (cells := 242) (slots := 10403) (ci := 9) (fs := [.int 0, .null, .null, .null, .null, .null, .int 0, .int 0, .null, .int 0, .int 0, .int 0, .int 0, .int 0, .int 0, .null, .int 0, .null, .null, .null]) F iW_X12 tyX12 tyX12_ok (tl q6_62) (tl q6_63) (tl q1_11) rfl dv_X12 (Nat.le_of_ble_eq_true rfl) (Nat.le_of_ble_eq_true rfl) dL_law__8 (fun q2 => ?_)
  refine a_bs (bs' := [[], bX11 y (aa 0) (aa 1 0) (aa 2 0) (aa 3 0) (aa 4 0) (aa 5 0) (aa 6 0) (aa 7 0) (aa 8 0) (aa 9 0) (aa 10 0) (aa 11 0) (aa 12 0) (aa 13 0) (aa 14 0) (aa 15 0) iX11, bAB400 y (aa 1) (fun _ _ => 0), bX10 y (aa 2) iX10, bX4 y (aa 3) (aa 2 0) (aa 8 0) iX4, bX6 y (aa 4) (aa 2 0) (aa 9 0) iX6, bX3 y (aa 5) iX3, bX5 y (aa 6) iX5, bX1 y (aa 7) iX1, bX3 y (aa 8) iX3, bX5 y (aa 9) iX5, bX1 y (aa 10) iX1, bX2 y (aa 11) iX2, bX8 y (aa 12) (fun i => aa (20 + i)) (fun i => aa (40 + i)) iX8, bX3 y (aa 13) iX3, bX5 y (aa 14) iX5, bX1 y (aa 15) iX1, bPH y (fun i => aa (20 + i)) (fun _ => iX3), bPD y (fun i => aa (40 + i)) (fun _ => iX1), [(q2, .inr (9, [.int 0, .null, .null, .null, .null, .null, .int 0, .int 0, .null, .int 0, .int 0, .int 0, .int 0, .int 0, .int 0, .null, .int 0, .null, .null, .null]))]]) (cells' := 243) (slots' := 10423) rfl rfl rfl ?_
  refine a_dup (pc := 11) F dL_law__11 rfl ?_
  refine a_callI (pc := 12) (cells := 243) (slots := 10423) F 19 (c_X12_init l D y ek q2) (cwI 0 F.1.2.2.2.2 (gI q6_66) rfl rfl rfl (F.1.2.2.2.2 _ (tl q1_11)) (F.1.2.2.2.2 _ (tl q6_64)) (F.1.2.2.2.2 _ (tl q6_65)) rfl (by decide +kernel) ⟨Nat.le_of_ble_eq_true rfl, Nat.le_of_ble_eq_true rfl⟩) rfl rfl rfl (Nat.le_of_ble_eq_true rfl) ⟨Nat.le_of_ble_eq_true rfl, Nat.le_of_ble_eq_true rfl⟩ dL_law__12 (fun bb hbb => ?_)
  subst hbb
  refine a_bs (bs' := [[], bX11 y (aa 0) (aa 1 0) (aa 2 0) (aa 3 0) (aa 4 0) (aa 5 0) (aa 6 0) (aa 7 0) (aa 8 0) (aa 9 0) (aa 10 0) (aa 11 0) (aa 12 0) (aa 13 0) (aa 14 0) (aa 15 0) iX11, bAB400 y (aa 1) (fun _ _ => 0), bX10 y (aa 2) iX10, bX4 y (aa 3) (aa 2 0) (aa 8 0) iX4, bX6 y (aa 4) (aa 2 0) (aa 9 0) iX6, bX3 y (aa 5) iX3, bX5 y (aa 6) iX5, bX1 y (aa 7) iX1, bX3 y (aa 8) iX3, bX5 y (aa 9) iX5, bX1 y (aa 10) iX1, bX2 y (aa 11) iX2, bX8 y (aa 12) (fun i => aa (20 + i)) (fun i => aa (40 + i)) iX8, bX3 y (aa 13) iX3, bX5 y (aa 14) iX5, bX1 y (aa 15) iX1, bPH y (fun i => aa (20 + i)) (fun _ => iX3), bPD y (fun i => aa (40 + i)) (fun _ => iX1), [], bX12 y (bb 0) iX12]) (cells' := 253) (slots' := 21771) rfl rfl rfl ?_
  refine a_astoren (pc := 15) (lv' := [(0, .ref b), (1, .ref (aa 0 0)), (2, .ref (bb 0 0))]) F [1, 2, 0] dL_law__15 rfl (by decide) rfl ?_
  refine a_iconst (pc := 16) (v := 1) F dL_law__16 (by decide) ?_
  refine a_newa (pc := 17) (cells := 253) (slots := 21771) (atype := .long) (ty := .long) (t0 := 3) (N := 1) (a0 := (1, .inr (.inl (fun _ => 0)))) F (tl q8_237) rfl rfl (fun _ => rfl) (by decide) (by decide) (by decide) (Nat.le_of_ble_eq_true rfl) (Nat.le_of_ble_eq_true rfl) dL_law__17 (fun qo => ?_)
  refine a_bs (bs' := [[], bX11 y (aa 0) (aa 1 0) (aa 2 0) (aa 3 0) (aa 4 0) (aa 5 0) (aa 6 0) (aa 7 0) (aa 8 0) (aa 9 0) (aa 10 0) (aa 11 0) (aa 12 0) (aa 13 0) (aa 14 0) (aa 15 0) iX11, bAB400 y (aa 1) (fun _ _ => 0), bX10 y (aa 2) iX10, bX4 y (aa 3) (aa 2 0) (aa 8 0) iX4, bX6 y (aa 4) (aa 2 0) (aa 9 0) iX6, bX3 y (aa 5) iX3, bX5 y (aa 6) iX5, bX1 y (aa 7) iX1, bX3 y (aa 8) iX3, bX5 y (aa 9) iX5, bX1 y (aa 10) iX1, bX2 y (aa 11) iX2, bX8 y (aa 12) (fun i => aa (20 + i)) (fun i => aa (40 + i)) iX8, bX3 y (aa 13) iX3, bX5 y (aa 14) iX5, bX1 y (aa 15) iX1, bPH y (fun i => aa (20 + i)) (fun _ => iX3), bPD y (fun i => aa (40 + i)) (fun _ => iX1), [], bX12 y (bb 0) iX12, bAL1 y (fun _ => qo) (fun _ => 0)]) (cells' := 254) (slots' := 21772) rfl rfl rfl ?_
  refine a_astoren (pc := 19) (lv' := [(0, .ref b), (1, .ref (aa 0 0)), (2, .ref (bb 0 0)), (3, .ref qo)]) F [1, 2, 3, 0] dL_law__19 rfl (by decide) rfl ?_
  refine a_perm (bs' := [bX11 y (aa 0) (aa 1 0) (aa 2 0) (aa 3 0) (aa 4 0) (aa 5 0) (aa 6 0) (aa 7 0) (aa 8 0) (aa 9 0) (aa 10 0) (aa 11 0) (aa 12 0) (aa 13 0) (aa 14 0) (aa 15 0) iX11, bAB400 y (aa 1) (fun _ _ => 0), bX10 y (aa 2) iX10, bX4 y (aa 3) (aa 2 0) (aa 8 0) iX4, bX6 y (aa 4) (aa 2 0) (aa 9 0) iX6, bX3 y (aa 5) iX3, bX5 y (aa 6) iX5, bX1 y (aa 7) iX1, bX3 y (aa 8) iX3, bX5 y (aa 9) iX5, bX1 y (aa 10) iX1, bX2 y (aa 11) iX2, bX8 y (aa 12) (fun i => aa (20 + i)) (fun i => aa (40 + i)) iX8, bX3 y (aa 13) iX3, bX5 y (aa 14) iX5, bX1 y (aa 15) iX1, bPH y (fun i => aa (20 + i)) (fun _ => iX3), bPD y (fun i => aa (40 + i)) (fun _ => iX1), bX12 y (bb 0) iX12, bAL1 y (fun _ => qo) (fun _ => 0)]) (pm_all [1, 2, 3, 4, 5, 6, 7, 8, 9, 10, 11, 12, 13, 14, 15, 16, 17, 18, 20, 21] (by decide) rfl rfl rfl) ?_
  refine c_law hlt F hX hbl hbA 254 21772 (Nat.le_of_ble_eq_true rfl) (Nat.le_of_ble_eq_true rfl) ?_ n (aa 0) (aa 1) (aa 2) (aa 3) (aa 4) (aa 5) (aa 6) (aa 7) (aa 8) (aa 9) (aa 10) (aa 11) (aa 12) (aa 13) (aa 14) (aa 15) (fun i => aa (20 + i)) (fun i => aa (40 + i)) (bb 0) (fun _ => qo) iX11 (fun _ _ => 0) iX10 iX4 iX6 iX3 iX5 iX1 iX3 iX5 iX1 iX2 iX8 iX3 iX5 iX1 (fun _ => iX3) (fun _ => iX1) iX12 (fun _ => 0) hpure
  intro cells slots lv bs hc hs H locs ls hP hD hS hl1
  refine va_forget (fun q hq => hS.2.2 q hq) ?_
  refine W.widen (k := 601024) (n := 7293033) hc hs ?_
  exact lw_ret hx hb hr hlocks dL_law__2490
