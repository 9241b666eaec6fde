section BLK
def sB (bs : List va_W) (ks : List Nat) : List va_W := ks.map (fun k => bs.getD k [])
def eB (ks : List Nat) : List va_W := ks.map (fun _ => [])
theorem pB_len : ∀ (ks : List Nat) (bs ns : List va_W), (pB bs ks ns).length = bs.length
  | [], bs, ns => by cases ns <;> rfl
  | k :: ks, bs, [] => rfl
  | k :: ks, bs, n :: ns => by
    show (pB (bs.set k n) ks ns).length = _
    rw [pB_len ks]; simp
theorem pB_comm : ∀ (ks : List Nat) (bs ns : List va_W) (k : Nat) (n : va_W), k ∉ ks → pB (bs.set k n) ks ns = (pB bs ks ns).set k n
  | [], bs, ns, k, n, _ => by cases ns <;> rfl
  | k0 :: ks, bs, [], k, n, _ => rfl
  | k0 :: ks, bs, n0 :: ns, k, n, h => by
    show pB ((bs.set k n).set k0 n0) ks ns = (pB (bs.set k0 n0) ks ns).set k n
    have h1 : k ≠ k0 := fun e => h (by rw [e]; exact List.mem_cons_self)
    rw [List.set_comm _ _ h1]
    exact pB_comm ks _ ns k n (fun e => h (List.mem_cons_of_mem _ e))
theorem pB_perm : ∀ (ks : List Nat) (bs ns : List va_W), va_nd ks = true → (∀ k ∈ ks, k < bs.length) → ns.length = ks.length → (pB bs ks ns).flatten.Perm (ns.flatten ++ (pB bs ks (eB ks)).flatten)
  | [], bs, [], _, _, _ => by simp [pB]
  | [], bs, n :: ns, _, _, h => by simp at h
  | k :: ks, bs, [], _, _, h => by simp at h
  | k :: ks, bs, n :: ns, hn, hl, h => by
    simp only [va_nd, Bool.and_eq_true, decide_eq_true_eq] at hn
    have i1 := pB_perm ks (bs.set k n) ns hn.2 (fun j hj => by rw [List.length_set]; exact hl j (List.mem_cons_of_mem _ hj)) (by simpa using h)
    show (pB (bs.set k n) ks ns).flatten.Perm (n ++ ns.flatten ++ (pB (bs.set k []) ks (eB ks)).flatten)
    refine i1.trans ?_
    rw [pB_comm ks bs (eB ks) k n hn.1, pB_comm ks bs (eB ks) k [] hn.1]
    have hk : k < (pB bs ks (eB ks)).length := by rw [pB_len]; exact hl k List.mem_cons_self
    have i2 := fl_pick (List.getElem?_eq_getElem hk) n
    refine (List.Perm.append_left ns.flatten i2).trans ?_
    rw [← List.append_assoc]
    exact List.Perm.append_right _ List.perm_append_comm
theorem pB_self : ∀ (ks : List Nat) (bs : List va_W), va_nd ks = true → (∀ k ∈ ks, k < bs.length) → pB bs ks (sB bs ks) = bs
  | [], bs, _, _ => rfl
  | k :: ks, bs, hn, hl => by
    simp only [va_nd, Bool.and_eq_true, decide_eq_true_eq] at hn
    show pB (bs.set k (bs.getD k [])) ks (sB bs ks) = bs
    have hk : k < bs.length := hl k List.mem_cons_self
    have he : bs.set k (bs.getD k []) = bs := by
      rw [List.getD_eq_getElem?_getD, List.getElem?_eq_getElem hk]
      simp
    rw [he]
    exact pB_self ks bs hn.2 (fun j hj => hl j (List.mem_cons_of_mem _ hj))
end BLK
abbrev tyG (y : Nat → ClassId) : List (ClassId × FieldType) := [(y 0, .int), (y 1, .boolean), (y 2, .byte), (y 3, .long), (y 4, .object RX3), (y 5, .object RX1)]
/-- what is read and never written: the texts of the class and of the reference, and some statics of the JDK's -/
abbrev EK : Type := (Nat → Nat) × (Nat → Nat)
def sTab : List (String × Nat × String) := [("SeeSawHill$Tokens", 52, "plank purse guests thing snow step fall thieves fee worth in age rent lure if or and not up level house height load aged week "), ("SeeSawHillModel", 124, "age"), ("SeeSawHillModel", 132, "worth"), ("SeeSawHillModel", 138, "in"), ("SeeSawHillModel", 139, "plank"), ("SeeSawHillModel", 145, "purse"), ("SeeSawHillModel", 150, "guests"), ("SeeSawHillModel", 152, "thing"), ("SeeSawHillModel", 157, "snow"), ("SeeSawHillModel", 159, "step"), ("SeeSawHillModel", 161, "fall"), ("SeeSawHillModel", 163, "thieves"), ("SeeSawHillModel", 165, "fee"), ("SeeSawHillModel", 174, "house"), ("SeeSawHillModel", 176, "height"), ("SeeSawHillModel", 178, "load"), ("SeeSawHillModel", 180, "aged"), ("SeeSawHillModel", 182, "week"), ("SeeSawHillModel", 191, "up"), ("SeeSawHillModel", 193, "level"), ("SeeSawHillModel", 201, "not"), ("SeeSawHillModel", 212, "and"), ("SeeSawHillModel", 217, "or"), ("SeeSawHillModel", 219, "rent"), ("SeeSawHillModel", 221, "lure"), ("SeeSawHillModel", 223, "if")]
def sLen : List Nat := [126, 3, 5, 2, 5, 5, 6, 5, 4, 4, 4, 7, 3, 5, 6, 4, 4, 4, 2, 5, 3, 3, 2, 4, 4, 2]
def sByt : List (List Int32) := [[112, 108, 97, 110, 107, 32, 112, 117, 114, 115, 101, 32, 103, 117, 101, 115, 116, 115, 32, 116, 104, 105, 110, 103, 32, 115, 110, 111, 119, 32, 115, 116, 101, 112, 32, 102, 97, 108, 108, 32, 116, 104, 105, 101, 118, 101, 115, 32, 102, 101, 101, 32, 119, 111, 114, 116, 104, 32, 105, 110, 32, 97, 103, 101, 32, 114, 101, 110, 116, 32, 108, 117, 114, 101, 32, 105, 102, 32, 111, 114, 32, 97, 110, 100, 32, 110, 111, 116, 32, 117, 112, 32, 108, 101, 118, 101, 108, 32, 104, 111, 117, 115, 101, 32, 104, 101, 105, 103, 104, 116, 32, 108, 111, 97, 100, 32, 97, 103, 101, 100, 32, 119, 101, 101, 107, 32], [97, 103, 101], [119, 111, 114, 116, 104], [105, 110], [112, 108, 97, 110, 107], [112, 117, 114, 115, 101], [103, 117, 101, 115, 116, 115], [116, 104, 105, 110, 103], [115, 110, 111, 119], [115, 116, 101, 112], [102, 97, 108, 108], [116, 104, 105, 101, 118, 101, 115], [102, 101, 101], [104, 111, 117, 115, 101], [104, 101, 105, 103, 104, 116], [108, 111, 97, 100], [97, 103, 101, 100], [119, 101, 101, 107], [117, 112], [108, 101, 118, 101, 108], [110, 111, 116], [97, 110, 100], [111, 114], [114, 101, 110, 116], [108, 117, 114, 101], [105, 102]]
abbrev nW1 : Cond := Cond.fieldLinkNest "SeeSawHill$TextReader" 42 "SeeSawHill$Tokens" "codes" "[I" "SeeSawHill"
abbrev nW2 : Cond := Cond.fieldLinkNest "SeeSawHill$TextReader" 39 "SeeSawHill$Tokens" "size" "I" "SeeSawHill"
abbrev nW3 : Cond := Cond.declares ⟨"SeeSawHill$TextReader", "readLine", "()Z"⟩
def eX : List String := ["java/lang/IllegalArgumentException", "java/lang/UnsupportedOperationException", "java/lang/IndexOutOfBoundsException", "java/util/NoSuchElementException", "java/lang/IllegalStateException"]
def dX : List String := ["java/lang/RuntimeException", "java/lang/Exception", "java/lang/Throwable"]
def nX : List (String × String) := [("java/lang/UnsupportedOperationException", "java/lang/IllegalArgumentException"), ("java/util/NoSuchElementException", "java/lang/IndexOutOfBoundsException"), ("java/lang/IllegalStateException", "java/lang/IndexOutOfBoundsException"), ("java/lang/IllegalArgumentException", "java/lang/IndexOutOfBoundsException")]
def sS (k : EK) (A : Nat → Prop) (U : State) (H : Heap) : Prop := ∀ i : Nat, i < 26 → va_O "java/lang/String" (k.1 i) A U H ∧ va_OF "java/lang/String" "coder" "B" (.int 0) (k.1 i) A U H ∧ va_OF "java/lang/String" "value" "[B" (.ref (k.2 i)) (k.1 i) A U H ∧ va_T .byte (k.2 i) (sLen.getD i 0) (fun j => .int ((sByt.getD i []).getD j 0)) A U H
theorem sS.moved {k : EK} {A : Nat → Prop} {u U : State} {H : Heap} (hvm : u.vm.Alike U.vm) (h : sS k A u H) : sS k A U H := fun i hi => ⟨(h i hi).1.moved hvm, (h i hi).2.1.moved hvm, (h i hi).2.2.1.moved hvm, (h i hi).2.2.2.moved hvm⟩
theorem sS.kept {k : EK} {A : Nat → Prop} {U : State} {H H1 : Heap} (h : sS k A U H) (hq : ∀ a : Nat, a < H.size → ¬ A a → H1[a]? = H[a]?) : sS k A U H1 := fun i hi => ⟨(h i hi).1.kept hq, (h i hi).2.1.kept hq, (h i hi).2.2.1.kept hq, (h i hi).2.2.2.kept hq⟩
theorem sS.narrow {k : EK} {A B : Nat → Prop} {U : State} {H : Heap} (h : sS k A U H) (hAB : ∀ q, B q → A q) : sS k B U H := fun i hi => ⟨(h i hi).1.narrow hAB, (h i hi).2.1.narrow hAB, (h i hi).2.2.1.narrow hAB, (h i hi).2.2.2.narrow hAB⟩
def EV (k : EK) (A : Nat → Prop) (U : State) (H : Heap) : Prop :=
  sS k A U H ∧ (∀ (i : Nat) (q : String × Nat × String), sTab[i]? = some q → vk_R q.1 q.2.1 q.2.2 (k.1 i) U) ∧ va_Z "java/lang/String" "COMPACT_STRINGS" "Z" (.int 1) A U H ∧
  va_Zq "jdk/internal/util/Preconditions" "SIOOBE_FORMATTER" "Ljava/util/function/BiFunction;" A U H ∧ vx_Zq Bundle.tN "UNASSIGNED_STACK" Bundle.steD A U H ∧ vx_Zq Bundle.tN "SUPPRESSED_SENTINEL" Bundle.listD A U H ∧
  va_Nw nW1 U ∧ va_Nw nW2 U ∧ va_Nw nW3 U ∧ (∀ E ∈ eX, va_Nw (.castable E E) U) ∧ (∀ N ∈ dX, va_Nw (.declares (Bundle.init0 N)) U) ∧ (∀ q ∈ nX, va_Nc q.1 q.2 U) ∧ va_AO RX3 U ∧ va_AO RX1 U
theorem EV.call {k : EK} {A A' : Nat → Prop} {s U : State} {H : Heap} {locs : List Loc} (h : EV k A s s.heap) (hS : va_S A s.heap H locs) (hW : s.WarmedH U.vm) (hU : U.heap = H) (hF : ∀ q, A' q → A q) : EV k A' U U.heap := by
  obtain ⟨h1, h2, h3, h4, h5, h6, n1, n2, n3, n4, n6, n5, o1, o2⟩ := h
  rw [hU]
  exact ⟨((h1.kept hS.2.1).moved hW.alike).narrow hF, fun i q hi => (h2 i q hi).warm hW, ((h3.kept hS.2.1).moved hW.alike).narrow hF, ((h4.kept hS.2.1).moved hW.alike).narrow hF, ((h5.kept hS.2.1).moved hW.alike).narrow hF, ((h6.kept hS.2.1).moved hW.alike).narrow hF, n1.warmF hW, n2.warmF hW, n3.warmD hW, fun E hE => (n4 E hE).warmC hW, fun N hN => (n6 N hN).warmD hW, fun q hq => (n5 q hq).moved hW.alike, o1.moved hW.alike, o2.moved hW.alike⟩
theorem EV.calling {k : EK} {A : Nat → Prop} {U : State} {g : JFrame} {mk : MethodId} {a : Array Value} (h : EV k A U U.heap) : EV k A (U.calling g mk a) (U.calling g mk a).heap := by
  obtain ⟨h1, h2, h3, h4, h5, h6, n1, n2, n3, n4, n6, n5, o1, o2⟩ := h
  have hv : U.vm.Alike (U.calling g mk a).vm := Vm.Alike.refl U.vm
  exact ⟨h1.moved hv, fun i q hi => (h2 i q hi).same rfl, h3.moved hv, h4.moved hv, h5.moved hv, h6.moved hv, n1.same rfl rfl, n2.same rfl rfl, n3.same rfl rfl, fun E hE => (n4 E hE).same rfl rfl, fun N hN => (n6 N hN).same rfl rfl, fun q hq => (n5 q hq).moved hv, o1.moved hv, o2.moved hv⟩
/-- at this place, with these locals, this stack, these blocks of cells: the end comes -/
def At (p : Program) (l : Launch) (e : Env) (R : Room) (s : State) (m : MethodId) (args : Array Value) (below : List Frame) (meth : Method) (c : Code) (Q : State → Prop) (D : va_G) (A : Nat → Prop) (nL cells slots pc : Nat) (lv : List (Nat × Value)) (st : List Value) (bs : List va_W) : Prop :=
  ∀ (H : Heap) (locs : List Loc) (ls : Array Slot), va_P D vwCl bs.flatten H → va_D A bs.flatten → va_S A s.heap H locs → lv_has ls nL lv → W p l e R s m args below meth c H locs cells slots Q (F0 m pc ls st)
def Fx (p : Program) (s : State) (m : MethodId) (args : Array Value) (c : Code) (cc : ByteArray) (own : String) (Ts : List Cond) (nL : Nat) (D : va_G) (y : Nat → ClassId) (ek : EK) (A : Nat → Prop) : Prop :=
  CallFix p m c cc nL s args Ts own ∧ va_K D vwCl (tyG y) s ∧ (∀ q, s.heap.size ≤ q → A q) ∧ EV ek A s s.heap
/-- a contract: called so, in these blocks, it answers r, and the blocks are those -/
def CI (l : Launch) (y : MethodName) (ws : List Cond) (rm : Room) (D : va_G) (ty : Nat → ClassId) (ek : EK) (as : List Value) (bs0 : List va_W) (r : Int32) (bs1 : List va_W) (mc ms : Nat) : Prop :=
  ∀ sz : Nat, Met l y ws rm (va_Pc as (fun U => U.heap.size = sz ∧ va_P D vwCl bs0.flatten U.heap ∧ va_K D vwCl (tyG ty) U ∧ va_D (fun _ => True) bs0.flatten ∧ EV ek (va_A bs0.flatten sz) U U.heap)) (va_Qi (fun (r' : Int32) (_ : Unit) => r' = r) (fun _ t => va_P D vwCl bs1.flatten t.heap ∧ va_K D vwCl (tyG ty) t ∧ va_D (va_A bs0.flatten sz) bs1.flatten) (va_A bs0.flatten sz)) mc ms (va_A bs0.flatten sz)
def CV (l : Launch) (y : MethodName) (ws : List Cond) (rm : Room) (D : va_G) (ty : Nat → ClassId) (ek : EK) (as : List Value) (bs0 : List va_W) (bs1 : List va_W) (mc ms : Nat) : Prop :=
  ∀ sz : Nat, Met l y ws rm (va_Pc as (fun U => U.heap.size = sz ∧ va_P D vwCl bs0.flatten U.heap ∧ va_K D vwCl (tyG ty) U ∧ va_D (fun _ => True) bs0.flatten ∧ EV ek (va_A bs0.flatten sz) U U.heap)) (va_Qv (fun (_ : Unit) => True) (fun _ t => va_P D vwCl bs1.flatten t.heap ∧ va_K D vwCl (tyG ty) t ∧ va_D (va_A bs0.flatten sz) bs1.flatten) (va_A bs0.flatten sz)) mc ms (va_A bs0.flatten sz)
theorem pc_blind {as : List Value} {sz : Nat} {D : va_G} {ty : Nat → ClassId} {ek : EK} {w : va_W} {A : Nat → Prop} : FrameBlind (va_Pc as (fun U => U.heap.size = sz ∧ va_P D vwCl w U.heap ∧ va_K D vwCl (tyG ty) U ∧ va_D (fun _ => True) w ∧ EV ek A U U.heap)) := fun a U g mk q => by
  obtain ⟨q0, q1, qP, qK, qD, qE⟩ := q
  exact ⟨q0, q1, qP, va_K.moved (u := U) (U := U.calling g mk a) (Vm.Alike.refl U.vm) qK, qD, qE.calling⟩
section ATR
variable {p : Program} {l : Launch} {e : Env} {R : Room} {s : State} {m : MethodId} {args : Array Value} {below : List Frame} {meth : Method} {c : Code} {Q : State → Prop} {D : va_G} {y : Nat → ClassId} {ek : EK} {A : Nat → Prop} {nL cells slots pc : Nat} {cc : ByteArray} {own : String} {Ts : List Cond} {lv : List (Nat × Value)} {st : List Value} {bs : List va_W}
theorem a_iconst (F : Fx p s m args c cc own Ts nL D y ek A) {n : Int} {v : Int32} (hd : decode cc pc = .ok (.iconst n, 1)) (hv : Int32.ofInt n = v) (k : At p l e R s m args below meth c Q D A nL cells slots (pc + 1) lv (.int v :: st) bs) : At p l e R s m args below meth c Q D A nL cells slots pc lv st bs :=
  fun H locs ls hP hD hS hl => lv_iconst F.1.1 F.1.2.1 hd hv (k H locs ls hP hD hS hl)
theorem a_bipush (F : Fx p s m args c cc own Ts nL D y ek A) {n : Int} {v : Int32} (hd : decode cc pc = .ok (.bipush n, 2)) (hv : (Int8.ofInt n).toInt32 = v) (k : At p l e R s m args below meth c Q D A nL cells slots (pc + 2) lv (.int v :: st) bs) : At p l e R s m args below meth c Q D A nL cells slots pc lv st bs :=
  fun H locs ls hP hD hS hl => lv_bipush F.1.1 F.1.2.1 hd hv (k H locs ls hP hD hS hl)
theorem a_sipush (F : Fx p s m args c cc own Ts nL D y ek A) {n : Int} {v : Int32} (hd : decode cc pc = .ok (.sipush n, 3)) (hv : (Int16.ofInt n).toInt32 = v) (k : At p l e R s m args below meth c Q D A nL cells slots (pc + 3) lv (.int v :: st) bs) : At p l e R s m args below meth c Q D A nL cells slots pc lv st bs :=
  fun H locs ls hP hD hS hl => lv_sipush F.1.1 F.1.2.1 hd hv (k H locs ls hP hD hS hl)
theorem a_ldc (F : Fx p s m args c cc own Ts nL D y ek A) {index : Nat} {v : Int32} (hc : Jvm.Cond.constant own index v ∈ Ts) (hd : decode cc pc = .ok (.ldc index, 2)) (k : At p l e R s m args below meth c Q D A nL cells slots (pc + 2) lv (.int v :: st) bs) : At p l e R s m args below meth c Q D A nL cells slots pc lv st bs :=
  fun H locs ls hP hD hS hl => lv_ldc F.1.1 F.1.2.1 F.1.2.2.2.1 (F.1.2.2.2.2 _ hc) hd (k H locs ls hP hD hS hl)
theorem a_iload (F : Fx p s m args c cc own Ts nL D y ek A) {i j : Nat} {x : Int32} (hd : decode cc pc = .ok (.iload i, 2)) (hk : lv[j]? = some (i, .int x)) (k : At p l e R s m args below meth c Q D A nL cells slots (pc + 2) lv (.int x :: st) bs) : At p l e R s m args below meth c Q D A nL cells slots pc lv st bs :=
  fun H locs ls hP hD hS hl => lv_iload F.1.1 F.1.2.1 hd (lv_at hl j hk) (k H locs ls hP hD hS hl)
theorem a_iloadn (F : Fx p s m args c cc own Ts nL D y ek A) {k0 : Fin 4} {i j : Nat} {x : Int32} (hd : decode cc pc = .ok (.iload_n k0, 1)) (hi : (k0 : Nat) = i) (hk : lv[j]? = some (i, .int x)) (k : At p l e R s m args below meth c Q D A nL cells slots (pc + 1) lv (.int x :: st) bs) : At p l e R s m args below meth c Q D A nL cells slots pc lv st bs :=
  fun H locs ls hP hD hS hl => lv_iload_n F.1.1 F.1.2.1 hd hi (lv_at hl j hk) (k H locs ls hP hD hS hl)
theorem a_aload (F : Fx p s m args c cc own Ts nL D y ek A) {i j x : Nat} (hd : decode cc pc = .ok (.aload i, 2)) (hk : lv[j]? = some (i, .ref x)) (k : At p l e R s m args below meth c Q D A nL cells slots (pc + 2) lv (.ref x :: st) bs) : At p l e R s m args below meth c Q D A nL cells slots pc lv st bs :=
  fun H locs ls hP hD hS hl => lv_aload F.1.1 F.1.2.1 hd (lv_at hl j hk) (k H locs ls hP hD hS hl)
theorem a_aloadn (F : Fx p s m args c cc own Ts nL D y ek A) {k0 : Fin 4} {i j x : Nat} (hd : decode cc pc = .ok (.aload_n k0, 1)) (hi : (k0 : Nat) = i) (hk : lv[j]? = some (i, .ref x)) (k : At p l e R s m args below meth c Q D A nL cells slots (pc + 1) lv (.ref x :: st) bs) : At p l e R s m args below meth c Q D A nL cells slots pc lv st bs :=
  fun H locs ls hP hD hS hl => lv_aload_n F.1.1 F.1.2.1 hd hi (lv_at hl j hk) (k H locs ls hP hD hS hl)
theorem a_istore (F : Fx p s m args c cc own Ts nL D y ek A) {i : Nat} {x : Int32} {lv' : List (Nat × Value)} (ks : List Nat) (hd : decode cc pc = .ok (.istore i, 2)) (hn : i < nL) (hl' : lv_pick ((i, Value.int x) :: lv.filter (fun q => !(q.1 == i) && !(q.1 + 1 == i && q.2.category == 2))) ks = lv') (k : At p l e R s m args below meth c Q D A nL cells slots (pc + 2) lv' st bs) : At p l e R s m args below meth c Q D A nL cells slots pc lv (.int x :: st) bs :=
  fun H locs ls hP hD hS hl => lv_istore F.1.1 F.1.2.1 hd hl hn rfl (fun ls' h => k H locs ls' hP hD hS (lv_sub h ks hl'))
theorem a_istoren (F : Fx p s m args c cc own Ts nL D y ek A) {k0 : Fin 4} {i : Nat} {x : Int32} {lv' : List (Nat × Value)} (ks : List Nat) (hd : decode cc pc = .ok (.istore_n k0, 1)) (hi : (k0 : Nat) = i) (hn : i < nL) (hl' : lv_pick ((i, Value.int x) :: lv.filter (fun q => !(q.1 == i) && !(q.1 + 1 == i && q.2.category == 2))) ks = lv') (k : At p l e R s m args below meth c Q D A nL cells slots (pc + 1) lv' st bs) : At p l e R s m args below meth c Q D A nL cells slots pc lv (.int x :: st) bs :=
  fun H locs ls hP hD hS hl => lv_istore_n F.1.1 F.1.2.1 hd hi hl hn rfl (fun ls' h => k H locs ls' hP hD hS (lv_sub h ks hl'))
theorem a_iinc (F : Fx p s m args c cc own Ts nL D y ek A) {i j : Nat} {n : Int} {x v : Int32} {lv' : List (Nat × Value)} (ks : List Nat) (hd : decode cc pc = .ok (.iinc i n, 3)) (hk : lv[j]? = some (i, .int x)) (hv : x + Int32.ofInt n = v) (hn : i < nL) (hl' : lv_pick ((i, Value.int v) :: lv.filter (fun q => !(q.1 == i) && !(q.1 + 1 == i && q.2.category == 2))) ks = lv') (k : At p l e R s m args below meth c Q D A nL cells slots (pc + 3) lv' st bs) : At p l e R s m args below meth c Q D A nL cells slots pc lv st bs :=
  fun H locs ls hP hD hS hl => lv_iinc F.1.1 F.1.2.1 hd hl hk hv hn rfl (fun ls' h => k H locs ls' hP hD hS (lv_sub h ks hl'))
theorem a_sub (ks : List Nat) {lv' : List (Nat × Value)} (h : lv_pick lv ks = lv') (k : At p l e R s m args below meth c Q D A nL cells slots pc lv' st bs) : At p l e R s m args below meth c Q D A nL cells slots pc lv st bs :=
  fun H locs ls hP hD hS hl => k H locs ls hP hD hS (lv_sub hl ks h)
theorem a_iadd (F : Fx p s m args c cc own Ts nL D y ek A) {x z : Int32} (hd : decode cc pc = .ok (.iadd, 1)) (k : At p l e R s m args below meth c Q D A nL cells slots (pc + 1) lv (.int (x + z) :: st) bs) : At p l e R s m args below meth c Q D A nL cells slots pc lv (.int z :: .int x :: st) bs :=
  fun H locs ls hP hD hS hl => lv_iadd F.1.1 F.1.2.1 hd (k H locs ls hP hD hS hl)
theorem a_isub (F : Fx p s m args c cc own Ts nL D y ek A) {x z : Int32} (hd : decode cc pc = .ok (.isub, 1)) (k : At p l e R s m args below meth c Q D A nL cells slots (pc + 1) lv (.int (x - z) :: st) bs) : At p l e R s m args below meth c Q D A nL cells slots pc lv (.int z :: .int x :: st) bs :=
  fun H locs ls hP hD hS hl => lv_isub F.1.1 F.1.2.1 hd (k H locs ls hP hD hS hl)
theorem a_imul (F : Fx p s m args c cc own Ts nL D y ek A) {x z : Int32} (hd : decode cc pc = .ok (.imul, 1)) (k : At p l e R s m args below meth c Q D A nL cells slots (pc + 1) lv (.int (x * z) :: st) bs) : At p l e R s m args below meth c Q D A nL cells slots pc lv (.int z :: .int x :: st) bs :=
  fun H locs ls hP hD hS hl => lv_imul F.1.1 F.1.2.1 hd (k H locs ls hP hD hS hl)
theorem a_idiv (F : Fx p s m args c cc own Ts nL D y ek A) {x z : Int32} (hd : decode cc pc = .ok (.idiv, 1)) (hne : ¬ z = 0) (k : At p l e R s m args below meth c Q D A nL cells slots (pc + 1) lv (.int (x / z) :: st) bs) : At p l e R s m args below meth c Q D A nL cells slots pc lv (.int z :: .int x :: st) bs :=
  fun H locs ls hP hD hS hl => lv_idiv F.1.1 F.1.2.1 hd hne (k H locs ls hP hD hS hl)
theorem a_irem (F : Fx p s m args c cc own Ts nL D y ek A) {x z : Int32} (hd : decode cc pc = .ok (.irem, 1)) (hne : ¬ z = 0) (k : At p l e R s m args below meth c Q D A nL cells slots (pc + 1) lv (.int (x - x / z * z) :: st) bs) : At p l e R s m args below meth c Q D A nL cells slots pc lv (.int z :: .int x :: st) bs :=
  fun H locs ls hP hD hS hl => lv_irem F.1.1 F.1.2.1 hd hne (k H locs ls hP hD hS hl)
theorem a_ishl (F : Fx p s m args c cc own Ts nL D y ek A) {x z : Int32} (hd : decode cc pc = .ok (.ishl, 1)) (k : At p l e R s m args below meth c Q D A nL cells slots (pc + 1) lv (.int (x <<< (z &&& 31)) :: st) bs) : At p l e R s m args below meth c Q D A nL cells slots pc lv (.int z :: .int x :: st) bs :=
  fun H locs ls hP hD hS hl => lv_ishl F.1.1 F.1.2.1 hd (k H locs ls hP hD hS hl)
theorem a_ishr (F : Fx p s m args c cc own Ts nL D y ek A) {x z : Int32} (hd : decode cc pc = .ok (.ishr, 1)) (k : At p l e R s m args below meth c Q D A nL cells slots (pc + 1) lv (.int (x >>> (z &&& 31)) :: st) bs) : At p l e R s m args below meth c Q D A nL cells slots pc lv (.int z :: .int x :: st) bs :=
  fun H locs ls hP hD hS hl => lv_ishr F.1.1 F.1.2.1 hd (k H locs ls hP hD hS hl)
theorem a_iand (F : Fx p s m args c cc own Ts nL D y ek A) {x z : Int32} (hd : decode cc pc = .ok (.iand, 1)) (k : At p l e R s m args below meth c Q D A nL cells slots (pc + 1) lv (.int (x &&& z) :: st) bs) : At p l e R s m args below meth c Q D A nL cells slots pc lv (.int z :: .int x :: st) bs :=
  fun H locs ls hP hD hS hl => lv_iand F.1.1 F.1.2.1 hd (k H locs ls hP hD hS hl)
theorem a_ior (F : Fx p s m args c cc own Ts nL D y ek A) {x z : Int32} (hd : decode cc pc = .ok (.ior, 1)) (k : At p l e R s m args below meth c Q D A nL cells slots (pc + 1) lv (.int (x ||| z) :: st) bs) : At p l e R s m args below meth c Q D A nL cells slots pc lv (.int z :: .int x :: st) bs :=
  fun H locs ls hP hD hS hl => lv_ior F.1.1 F.1.2.1 hd (k H locs ls hP hD hS hl)
theorem a_ixor (F : Fx p s m args c cc own Ts nL D y ek A) {x z : Int32} (hd : decode cc pc = .ok (.ixor, 1)) (k : At p l e R s m args below meth c Q D A nL cells slots (pc + 1) lv (.int (x ^^^ z) :: st) bs) : At p l e R s m args below meth c Q D A nL cells slots pc lv (.int z :: .int x :: st) bs :=
  fun H locs ls hP hD hS hl => lv_ixor F.1.1 F.1.2.1 hd (k H locs ls hP hD hS hl)
theorem a_iushr (F : Fx p s m args c cc own Ts nL D y ek A) {x z : Int32} (hd : decode cc pc = .ok (.iushr, 1)) (k : At p l e R s m args below meth c Q D A nL cells slots (pc + 1) lv (.int ((x.toUInt32 >>> (z.toUInt32 &&& Int32.toUInt32 31)).toInt32) :: st) bs) : At p l e R s m args below meth c Q D A nL cells slots pc lv (.int z :: .int x :: st) bs :=
  fun H locs ls hP hD hS hl => lv_iushr F.1.1 F.1.2.1 hd rfl (k H locs ls hP hD hS hl)
theorem a_ineg (F : Fx p s m args c cc own Ts nL D y ek A) {x : Int32} (hd : decode cc pc = .ok (.ineg, 1)) (k : At p l e R s m args below meth c Q D A nL cells slots (pc + 1) lv (.int (-x) :: st) bs) : At p l e R s m args below meth c Q D A nL cells slots pc lv (.int x :: st) bs :=
  fun H locs ls hP hD hS hl => lv_ineg F.1.1 F.1.2.1 hd (k H locs ls hP hD hS hl)
theorem a_i2b (F : Fx p s m args c cc own Ts nL D y ek A) {x : Int32} (hd : decode cc pc = .ok (.i2b, 1)) (k : At p l e R s m args below meth c Q D A nL cells slots (pc + 1) lv (.int x.toInt8.toInt32 :: st) bs) : At p l e R s m args below meth c Q D A nL cells slots pc lv (.int x :: st) bs :=
  fun H locs ls hP hD hS hl => lv_i2b F.1.1 F.1.2.1 hd rfl (k H locs ls hP hD hS hl)
theorem a_dup (F : Fx p s m args c cc own Ts nL D y ek A) {v : Value} (hd : decode cc pc = .ok (.dup, 1)) (hv : v.category = 1) (k : At p l e R s m args below meth c Q D A nL cells slots (pc + 1) lv (v :: v :: st) bs) : At p l e R s m args below meth c Q D A nL cells slots pc lv (v :: st) bs :=
  fun H locs ls hP hD hS hl => lv_dup F.1.1 F.1.2.1 hd hv (k H locs ls hP hD hS hl)
theorem a_dup2 (F : Fx p s m args c cc own Ts nL D y ek A) {v w : Value} (hd : decode cc pc = .ok (.dup2, 1)) (hv : v.category = 1) (hw : w.category = 1) (k : At p l e R s m args below meth c Q D A nL cells slots (pc + 1) lv (v :: w :: v :: w :: st) bs) : At p l e R s m args below meth c Q D A nL cells slots pc lv (v :: w :: st) bs :=
  fun H locs ls hP hD hS hl => lv_dup2_11 F.1.1 F.1.2.1 hd hv hw (k H locs ls hP hD hS hl)
theorem a_pop (F : Fx p s m args c cc own Ts nL D y ek A) {v : Value} (hd : decode cc pc = .ok (.pop, 1)) (hv : v.category = 1) (k : At p l e R s m args below meth c Q D A nL cells slots (pc + 1) lv st bs) : At p l e R s m args below meth c Q D A nL cells slots pc lv (v :: st) bs :=
  fun H locs ls hP hD hS hl => lv_pop F.1.1 F.1.2.1 hd hv (k H locs ls hP hD hS hl)
theorem a_goto (F : Fx p s m args c cc own Ts nL D y ek A) {off : Int} {tgt : Nat} (hd : decode cc pc = .ok (.goto off, 3)) (ht : (pc : Int) + off = (tgt : Int)) (k : At p l e R s m args below meth c Q D A nL cells slots tgt lv st bs) : At p l e R s m args below meth c Q D A nL cells slots pc lv st bs :=
  fun H locs ls hP hD hS hl => lv_goto F.1.1 F.1.2.1 hd ht (k H locs ls hP hD hS hl)
theorem a_if_eq (F : Fx p s m args c cc own Ts nL D y ek A) {x : Int32} {off : Int} {tgt : Nat} (hd : decode cc pc = .ok (.ifCond .eq off, 3)) (ht : (pc : Int) + off = (tgt : Int)) (kt : x = 0 → At p l e R s m args below meth c Q D A nL cells slots tgt lv st bs) (kf : ¬ x = 0 → At p l e R s m args below meth c Q D A nL cells slots (pc + 3) lv st bs) : At p l e R s m args below meth c Q D A nL cells slots pc lv (.int x :: st) bs :=
  fun H locs ls hP hD hS hl => lv_if_eq F.1.1 F.1.2.1 hd ht (fun h => kt h H locs ls hP hD hS hl) (fun h => kf h H locs ls hP hD hS hl)
theorem a_if_ne (F : Fx p s m args c cc own Ts nL D y ek A) {x : Int32} {off : Int} {tgt : Nat} (hd : decode cc pc = .ok (.ifCond .ne off, 3)) (ht : (pc : Int) + off = (tgt : Int)) (kt : ¬ x = 0 → At p l e R s m args below meth c Q D A nL cells slots tgt lv st bs) (kf : x = 0 → At p l e R s m args below meth c Q D A nL cells slots (pc + 3) lv st bs) : At p l e R s m args below meth c Q D A nL cells slots pc lv (.int x :: st) bs :=
  fun H locs ls hP hD hS hl => lv_if_ne F.1.1 F.1.2.1 hd ht (fun h => kt h H locs ls hP hD hS hl) (fun h => kf h H locs ls hP hD hS hl)
theorem a_if_lt (F : Fx p s m args c cc own Ts nL D y ek A) {x : Int32} {off : Int} {tgt : Nat} (hd : decode cc pc = .ok (.ifCond .lt off, 3)) (ht : (pc : Int) + off = (tgt : Int)) (kt : x < 0 → At p l e R s m args below meth c Q D A nL cells slots tgt lv st bs) (kf : ¬ x < 0 → At p l e R s m args below meth c Q D A nL cells slots (pc + 3) lv st bs) : At p l e R s m args below meth c Q D A nL cells slots pc lv (.int x :: st) bs :=
  fun H locs ls hP hD hS hl => lv_if_lt F.1.1 F.1.2.1 hd ht (fun h => kt h H locs ls hP hD hS hl) (fun h => kf h H locs ls hP hD hS hl)
theorem a_if_ge (F : Fx p s m args c cc own Ts nL D y ek A) {x : Int32} {off : Int} {tgt : Nat} (hd : decode cc pc = .ok (.ifCond .ge off, 3)) (ht : (pc : Int) + off = (tgt : Int)) (kt : 0 ≤ x → At p l e R s m args below meth c Q D A nL cells slots tgt lv st bs) (kf : ¬ 0 ≤ x → At p l e R s m args below meth c Q D A nL cells slots (pc + 3) lv st bs) : At p l e R s m args below meth c Q D A nL cells slots pc lv (.int x :: st) bs :=
  fun H locs ls hP hD hS hl => lv_if_ge F.1.1 F.1.2.1 hd ht (fun h => kt h H locs ls hP hD hS hl) (fun h => kf h H locs ls hP hD hS hl)
theorem a_if_gt (F : Fx p s m args c cc own Ts nL D y ek A) {x : Int32} {off : Int} {tgt : Nat} (hd : decode cc pc = .ok (.ifCond .gt off, 3)) (ht : (pc : Int) + off = (tgt : Int)) (kt : 0 < x → At p l e R s m args below meth c Q D A nL cells slots tgt lv st bs) (kf : ¬ 0 < x → At p l e R s m args below meth c Q D A nL cells slots (pc + 3) lv st bs) : At p l e R s m args below meth c Q D A nL cells slots pc lv (.int x :: st) bs :=
  fun H locs ls hP hD hS hl => lv_if_gt F.1.1 F.1.2.1 hd ht (fun h => kt h H locs ls hP hD hS hl) (fun h => kf h H locs ls hP hD hS hl)
theorem a_if_le (F : Fx p s m args c cc own Ts nL D y ek A) {x : Int32} {off : Int} {tgt : Nat} (hd : decode cc pc = .ok (.ifCond .le off, 3)) (ht : (pc : Int) + off = (tgt : Int)) (kt : x ≤ 0 → At p l e R s m args below meth c Q D A nL cells slots tgt lv st bs) (kf : ¬ x ≤ 0 → At p l e R s m args below meth c Q D A nL cells slots (pc + 3) lv st bs) : At p l e R s m args below meth c Q D A nL cells slots pc lv (.int x :: st) bs :=
  fun H locs ls hP hD hS hl => lv_if_le F.1.1 F.1.2.1 hd ht (fun h => kt h H locs ls hP hD hS hl) (fun h => kf h H locs ls hP hD hS hl)
theorem a_icmp_eq (F : Fx p s m args c cc own Ts nL D y ek A) {x z : Int32} {off : Int} {tgt : Nat} (hd : decode cc pc = .ok (.if_icmp .eq off, 3)) (ht : (pc : Int) + off = (tgt : Int)) (kt : x = z → At p l e R s m args below meth c Q D A nL cells slots tgt lv st bs) (kf : ¬ x = z → At p l e R s m args below meth c Q D A nL cells slots (pc + 3) lv st bs) : At p l e R s m args below meth c Q D A nL cells slots pc lv (.int z :: .int x :: st) bs :=
  fun H locs ls hP hD hS hl => lv_icmp_eq F.1.1 F.1.2.1 hd ht (fun h => kt h H locs ls hP hD hS hl) (fun h => kf h H locs ls hP hD hS hl)
theorem a_icmp_ne (F : Fx p s m args c cc own Ts nL D y ek A) {x z : Int32} {off : Int} {tgt : Nat} (hd : decode cc pc = .ok (.if_icmp .ne off, 3)) (ht : (pc : Int) + off = (tgt : Int)) (kt : ¬ x = z → At p l e R s m args below meth c Q D A nL cells slots tgt lv st bs) (kf : x = z → At p l e R s m args below meth c Q D A nL cells slots (pc + 3) lv st bs) : At p l e R s m args below meth c Q D A nL cells slots pc lv (.int z :: .int x :: st) bs :=
  fun H locs ls hP hD hS hl => lv_icmp_ne F.1.1 F.1.2.1 hd ht (fun h => kt h H locs ls hP hD hS hl) (fun h => kf h H locs ls hP hD hS hl)
theorem a_icmp_lt (F : Fx p s m args c cc own Ts nL D y ek A) {x z : Int32} {off : Int} {tgt : Nat} (hd : decode cc pc = .ok (.if_icmp .lt off, 3)) (ht : (pc : Int) + off = (tgt : Int)) (kt : x < z → At p l e R s m args below meth c Q D A nL cells slots tgt lv st bs) (kf : ¬ x < z → At p l e R s m args below meth c Q D A nL cells slots (pc + 3) lv st bs) : At p l e R s m args below meth c Q D A nL cells slots pc lv (.int z :: .int x :: st) bs :=
  fun H locs ls hP hD hS hl => lv_icmp_lt F.1.1 F.1.2.1 hd ht (fun h => kt h H locs ls hP hD hS hl) (fun h => kf h H locs ls hP hD hS hl)
theorem a_icmp_ge (F : Fx p s m args c cc own Ts nL D y ek A) {x z : Int32} {off : Int} {tgt : Nat} (hd : decode cc pc = .ok (.if_icmp .ge off, 3)) (ht : (pc : Int) + off = (tgt : Int)) (kt : z ≤ x → At p l e R s m args below meth c Q D A nL cells slots tgt lv st bs) (kf : ¬ z ≤ x → At p l e R s m args below meth c Q D A nL cells slots (pc + 3) lv st bs) : At p l e R s m args below meth c Q D A nL cells slots pc lv (.int z :: .int x :: st) bs :=
  fun H locs ls hP hD hS hl => lv_icmp_ge F.1.1 F.1.2.1 hd ht (fun h => kt h H locs ls hP hD hS hl) (fun h => kf h H locs ls hP hD hS hl)
theorem a_icmp_gt (F : Fx p s m args c cc own Ts nL D y ek A) {x z : Int32} {off : Int} {tgt : Nat} (hd : decode cc pc = .ok (.if_icmp .gt off, 3)) (ht : (pc : Int) + off = (tgt : Int)) (kt : z < x → At p l e R s m args below meth c Q D A nL cells slots tgt lv st bs) (kf : ¬ z < x → At p l e R s m args below meth c Q D A nL cells slots (pc + 3) lv st bs) : At p l e R s m args below meth c Q D A nL cells slots pc lv (.int z :: .int x :: st) bs :=
  fun H locs ls hP hD hS hl => lv_icmp_gt F.1.1 F.1.2.1 hd ht (fun h => kt h H locs ls hP hD hS hl) (fun h => kf h H locs ls hP hD hS hl)
theorem a_icmp_le (F : Fx p s m args c cc own Ts nL D y ek A) {x z : Int32} {off : Int} {tgt : Nat} (hd : decode cc pc = .ok (.if_icmp .le off, 3)) (ht : (pc : Int) + off = (tgt : Int)) (kt : x ≤ z → At p l e R s m args below meth c Q D A nL cells slots tgt lv st bs) (kf : ¬ x ≤ z → At p l e R s m args below meth c Q D A nL cells slots (pc + 3) lv st bs) : At p l e R s m args below meth c Q D A nL cells slots pc lv (.int z :: .int x :: st) bs :=
  fun H locs ls hP hD hS hl => lv_icmp_le F.1.1 F.1.2.1 hd ht (fun h => kt h H locs ls hP hD hS hl) (fun h => kf h H locs ls hP hD hS hl)
theorem a_get (F : Fx p s m args c cc own Ts nL D y ek A) {ref C : String} {T : u_T} {N ci index kb j f : Nat} {b : va_W} {a : Nat} {fs : List Value} {v : Value} (hin : ∀ w ∈ u_ws C T N, w ∈ Ts) (hb : bs[kb]? = some b) (hj : b[j]? = some (a, .inr (ci, fs))) (hc : vwCl[ci]? = some (C, T, N)) (hf : f < N) (hlk : Cond.fieldLink own index ref (T f).2.1 (T f).2.2.1 ∈ Ts) (hsame : ∀ x, s.fieldFound? (T f).1 (T f).2.1 (T f).2.2.1 = some x → s.fieldFound? ref (T f).2.1 (T f).2.2.1 = some x) (hv : fs[f]? = some v) (hd : decode cc pc = .ok (.getfield index, 3)) (k : At p l e R s m args below meth c Q D A nL cells slots (pc + 3) lv (v :: st) bs) : At p l e R s m args below meth c Q D A nL cells slots pc lv (.ref a :: st) bs :=
  fun H locs ls hP hD hS hl => by
    obtain ⟨i, hi⟩ := fl_at hb hj
    exact va_get F.1.1 F.1.2.1 F.1.2.2.2.2 hin F.1.2.2.2.1 F.2.1 hP i hi hc f hf (F.1.2.2.2.2 _ hlk) hsame hv hd (k H locs ls hP hD hS hl)
theorem a_getN (F : Fx p s m args c cc own Ts nL D y ek A) {host : String} {ref C : String} {T : u_T} {N ci index kb j f : Nat} {b : va_W} {a : Nat} {fs : List Value} {v : Value} (hin : ∀ w ∈ u_ws C T N, w ∈ Ts) (hb : bs[kb]? = some b) (hj : b[j]? = some (a, .inr (ci, fs))) (hc : vwCl[ci]? = some (C, T, N)) (hf : f < N) (hlk : va_Nw (Cond.fieldLinkNest own index ref (T f).2.1 (T f).2.2.1 host) s) (hsame : ∀ x, s.fieldFound? (T f).1 (T f).2.1 (T f).2.2.1 = some x → s.fieldFound? ref (T f).2.1 (T f).2.2.1 = some x) (hv : fs[f]? = some v) (hd : decode cc pc = .ok (.getfield index, 3)) (k : At p l e R s m args below meth c Q D A nL cells slots (pc + 3) lv (v :: st) bs) : At p l e R s m args below meth c Q D A nL cells slots pc lv (.ref a :: st) bs :=
  fun H locs ls hP hD hS hl => by
    obtain ⟨i, hi⟩ := fl_at hb hj
    exact va_getN F.1.1 F.1.2.1 F.1.2.2.2.2 hin F.1.2.2.2.1 F.2.1 hP i hi hc f hf (hlk.use rfl) hsame hv hd (k H locs ls hP hD hS hl)
theorem a_put (F : Fx p s m args c cc own Ts nL D y ek A) {bs' : List va_W} {ty : FieldType} {ref C : String} {T : u_T} {N ci index kb j f : Nat} {b : va_W} {a : Nat} {fs : List Value} {v : Value} (hin : ∀ w ∈ u_ws C T N, w ∈ Ts) (hb : bs[kb]? = some b) (hj : b[j]? = some (a, .inr (ci, fs))) (hc : vwCl[ci]? = some (C, T, N)) (hf : f < N) (hlk : Cond.fieldLink own index ref (T f).2.1 (T f).2.2.1 ∈ Ts) (hsame : ∀ x, s.fieldFound? (T f).1 (T f).2.1 (T f).2.2.1 = some x → s.fieldFound? ref (T f).2.1 (T f).2.2.1 = some x) (ty0 : Nat → FieldType) (hty : ∀ k, k < N → parseFieldDescriptor (T k).2.2.1 = some (ty0 k)) (hnm : ∀ a, a < N → ∀ b, b < N → a ≠ b → (T a).2.1 ≠ (T b).2.1) (hfin : (T f).2.2.2 = false) (hdt : ty0 f = ty) (hn : narrow ty v = v) (hfit : fits ty v = true) (hlen : f < fs.length) (hbs : bs.set kb (b.set j (a, .inr (ci, fs.set f v))) = bs') (hd : decode cc pc = .ok (.putfield index, 3)) (k : At p l e R s m args below meth c Q D A nL cells slots (pc + 3) lv st bs') : At p l e R s m args below meth c Q D A nL cells slots pc lv (v :: .ref a :: st) bs :=
  fun H locs ls hP hD hS hl => by
    obtain ⟨i, hi, hset⟩ := fl_set hb hj
    exact va_put F.1.1 F.1.2.1 F.1.2.2.2.2 hin ty0 hty hnm F.1.2.2.2.1 F.2.1 hP hD hS i hi hc f hf (F.1.2.2.2.2 _ hlk) hsame hfin (ty := ty) (by rw [← hdt]; exact hty f hf) hn hfit hlen hd (fun H1 locs1 hP1 hD1 hS1 => k H1 locs1 ls (by rw [← hbs, ← hset]; exact hP1) (by rw [← hbs, ← hset]; exact hD1) hS1 hl)
theorem a_putN (F : Fx p s m args c cc own Ts nL D y ek A) {host : String} {bs' : List va_W} {ty : FieldType} {ref C : String} {T : u_T} {N ci index kb j f : Nat} {b : va_W} {a : Nat} {fs : List Value} {v : Value} (hin : ∀ w ∈ u_ws C T N, w ∈ Ts) (hb : bs[kb]? = some b) (hj : b[j]? = some (a, .inr (ci, fs))) (hc : vwCl[ci]? = some (C, T, N)) (hf : f < N) (hlk : va_Nw (Cond.fieldLinkNest own index ref (T f).2.1 (T f).2.2.1 host) s) (hsame : ∀ x, s.fieldFound? (T f).1 (T f).2.1 (T f).2.2.1 = some x → s.fieldFound? ref (T f).2.1 (T f).2.2.1 = some x) (ty0 : Nat → FieldType) (hty : ∀ k, k < N → parseFieldDescriptor (T k).2.2.1 = some (ty0 k)) (hnm : ∀ a, a < N → ∀ b, b < N → a ≠ b → (T a).2.1 ≠ (T b).2.1) (hfin : (T f).2.2.2 = false) (hdt : ty0 f = ty) (hn : narrow ty v = v) (hfit : fits ty v = true) (hlen : f < fs.length) (hbs : bs.set kb (b.set j (a, .inr (ci, fs.set f v))) = bs') (hd : decode cc pc = .ok (.putfield index, 3)) (k : At p l e R s m args below meth c Q D A nL cells slots (pc + 3) lv st bs') : At p l e R s m args below meth c Q D A nL cells slots pc lv (v :: .ref a :: st) bs :=
  fun H locs ls hP hD hS hl => by
    obtain ⟨i, hi, hset⟩ := fl_set hb hj
    exact va_putN F.1.1 F.1.2.1 F.1.2.2.2.2 hin ty0 hty hnm F.1.2.2.2.1 F.2.1 hP hD hS i hi hc f hf (hlk.use rfl) hsame hfin (ty := ty) (by rw [← hdt]; exact hty f hf) hn hfit hlen hd (fun H1 locs1 hP1 hD1 hS1 => k H1 locs1 ls (by rw [← hbs, ← hset]; exact hP1) (by rw [← hbs, ← hset]; exact hD1) hS1 hl)
theorem a_iald (F : Fx p s m args c cc own Ts nL D y ek A) {kb j n : Nat} {b : va_W} {a : Nat} {f : Nat → Int32} {i : Int32} (hb : bs[kb]? = some b) (hj : b[j]? = some (a, .inl (y 0, n, .inl f))) (hi : ix i n) (hd : decode cc pc = .ok (.iaload, 1)) (k : At p l e R s m args below meth c Q D A nL cells slots (pc + 1) lv (.int (f i.toNatClampNeg) :: st) bs) : At p l e R s m args below meth c Q D A nL cells slots pc lv (.int i :: .ref a :: st) bs :=
  fun H locs ls hP hD hS hl => by
    obtain ⟨i0, h0⟩ := fl_at hb hj
    exact va_iald F.1.1 F.1.2.1 F.2.1 hP i0 0 h0 rfl (ix_in hi) hd (k H locs ls hP hD hS hl)
theorem a_zald (F : Fx p s m args c cc own Ts nL D y ek A) {kb j n : Nat} {b : va_W} {a : Nat} {f : Nat → Int32} {i : Int32} (hb : bs[kb]? = some b) (hj : b[j]? = some (a, .inl (y 1, n, .inl f))) (hi : ix i n) (hd : decode cc pc = .ok (.baload, 1)) (k : At p l e R s m args below meth c Q D A nL cells slots (pc + 1) lv (.int (f i.toNatClampNeg) :: st) bs) : At p l e R s m args below meth c Q D A nL cells slots pc lv (.int i :: .ref a :: st) bs :=
  fun H locs ls hP hD hS hl => by
    obtain ⟨i0, h0⟩ := fl_at hb hj
    exact va_zald F.1.1 F.1.2.1 F.2.1 hP i0 1 h0 rfl (ix_in hi) hd (k H locs ls hP hD hS hl)
theorem a_bald (F : Fx p s m args c cc own Ts nL D y ek A) {kb j n : Nat} {b : va_W} {a : Nat} {f : Nat → Int32} {i : Int32} (hb : bs[kb]? = some b) (hj : b[j]? = some (a, .inl (y 2, n, .inl f))) (hi : ix i n) (hd : decode cc pc = .ok (.baload, 1)) (k : At p l e R s m args below meth c Q D A nL cells slots (pc + 1) lv (.int (f i.toNatClampNeg) :: st) bs) : At p l e R s m args below meth c Q D A nL cells slots pc lv (.int i :: .ref a :: st) bs :=
  fun H locs ls hP hD hS hl => by
    obtain ⟨i0, h0⟩ := fl_at hb hj
    exact va_bald F.1.1 F.1.2.1 F.2.1 hP i0 2 h0 rfl (ix_in hi) hd (k H locs ls hP hD hS hl)
theorem a_iast (F : Fx p s m args c cc own Ts nL D y ek A) {bs' : List va_W} {x : Int32} {kb j n : Nat} {b : va_W} {a : Nat} {f : Nat → Int32} {i : Int32} (hb : bs[kb]? = some b) (hj : b[j]? = some (a, .inl (y 0, n, .inl f))) (hi : ix i n) (hbs : bs.set kb (b.set j (a, .inl (y 0, n, .inl (upd f i.toNatClampNeg x)))) = bs') (hd : decode cc pc = .ok (.iastore, 1)) (k : At p l e R s m args below meth c Q D A nL cells slots (pc + 1) lv st bs') : At p l e R s m args below meth c Q D A nL cells slots pc lv (.int x :: .int i :: .ref a :: st) bs :=
  fun H locs ls hP hD hS hl => by
    obtain ⟨i0, h0, hset⟩ := fl_set hb hj
    exact va_iast F.1.1 F.1.2.1 F.2.1 hP hD hS i0 0 h0 rfl (ix_in hi) hd (fun H1 locs1 hP1 hD1 hS1 => k H1 locs1 ls (by rw [← hbs, ← hset]; exact hP1) (by rw [← hbs, ← hset]; exact hD1) hS1 hl)
theorem a_zast (F : Fx p s m args c cc own Ts nL D y ek A) {bs' : List va_W} {x : Int32} {kb j n : Nat} {b : va_W} {a : Nat} {f : Nat → Int32} {i : Int32} (hb : bs[kb]? = some b) (hj : b[j]? = some (a, .inl (y 1, n, .inl f))) (hi : ix i n) (hbs : bs.set kb (b.set j (a, .inl (y 1, n, .inl (upd f i.toNatClampNeg (vp_nar .boolean x))))) = bs') (hd : decode cc pc = .ok (.bastore, 1)) (k : At p l e R s m args below meth c Q D A nL cells slots (pc + 1) lv st bs') : At p l e R s m args below meth c Q D A nL cells slots pc lv (.int x :: .int i :: .ref a :: st) bs :=
  fun H locs ls hP hD hS hl => by
    obtain ⟨i0, h0, hset⟩ := fl_set hb hj
    exact va_zast F.1.1 F.1.2.1 F.2.1 hP hD hS i0 1 h0 rfl (ix_in hi) hd (fun H1 locs1 hP1 hD1 hS1 => k H1 locs1 ls (by rw [← hbs, ← hset]; exact hP1) (by rw [← hbs, ← hset]; exact hD1) hS1 hl)
theorem a_bast (F : Fx p s m args c cc own Ts nL D y ek A) {bs' : List va_W} {x : Int32} {kb j n : Nat} {b : va_W} {a : Nat} {f : Nat → Int32} {i : Int32} (hb : bs[kb]? = some b) (hj : b[j]? = some (a, .inl (y 2, n, .inl f))) (hi : ix i n) (hbs : bs.set kb (b.set j (a, .inl (y 2, n, .inl (upd f i.toNatClampNeg (vp_nar .byte x))))) = bs') (hd : decode cc pc = .ok (.bastore, 1)) (k : At p l e R s m args below meth c Q D A nL cells slots (pc + 1) lv st bs') : At p l e R s m args below meth c Q D A nL cells slots pc lv (.int x :: .int i :: .ref a :: st) bs :=
  fun H locs ls hP hD hS hl => by
    obtain ⟨i0, h0, hset⟩ := fl_set hb hj
    exact va_bast F.1.1 F.1.2.1 F.2.1 hP hD hS i0 2 h0 rfl (ix_in hi) hd (fun H1 locs1 hP1 hD1 hS1 => k H1 locs1 ls (by rw [← hbs, ← hset]; exact hP1) (by rw [← hbs, ← hset]; exact hD1) hS1 hl)
theorem a_alen (F : Fx p s m args c cc own Ts nL D y ek A) {kb j t0 : Nat} {b : va_W} {a : Nat} {cA : ClassId} {x : vp_A} {ty : FieldType} {v : Int32} (hb : bs[kb]? = some b) (hj : b[j]? = some (a, .inl (cA, x))) (ht : (tyG y)[t0]? = some (cA, ty)) (hv : Int32.ofNat x.1 = v) (hd : decode cc pc = .ok (.arraylength, 1)) (k : At p l e R s m args below meth c Q D A nL cells slots (pc + 1) lv (.int v :: st) bs) : At p l e R s m args below meth c Q D A nL cells slots pc lv (.ref a :: st) bs :=
  fun H locs ls hP hD hS hl => by
    obtain ⟨i0, h0⟩ := fl_at hb hj
    exact va_alen F.1.1 F.1.2.1 F.2.1 hP i0 t0 h0 ht hv hd (k H locs ls hP hD hS hl)
theorem a_mmax (F : Fx p s m args c cc own Ts nL D y ek A) {index : Nat} {x z : Int32} (hlk : Cond.methodLink own index Lib.Math.max.name ∈ Ts) (hst : Cond.static Lib.Math.max.name ∈ Ts) (hini : Cond.initialized "java/lang/Math" ∈ Ts) (hcode : Cond.code Lib.Math.max.name Lib.Math.max.code 2 (some .int) ∈ Ts) (hfr : 1 ≤ R.frames) (hlo : (st.map fun v => v.category).sum + 13 ≤ R.locals) (hc : cells ≤ R.cells) (hs : slots ≤ R.slots) (hd : decode cc pc = .ok (.invokestatic index, 3)) (k : At p l e R s m args below meth c Q D A nL cells slots (pc + 3) lv (.int (if x < z then z else x) :: st) bs) : At p l e R s m args below meth c Q D A nL cells slots pc lv (.int z :: .int x :: st) bs :=
  fun H locs ls hP hD hS hl => va_mmax F.1.1 F.1.2.1 (F.1.2.2.1.trans hl.1.symm) F.1.2.2.2.1 (F.1.2.2.2.2 _ hlk) (F.1.2.2.2.2 _ hst) (F.1.2.2.2.2 _ hini) (F.1.2.2.2.2 _ hcode) hfr hlo hc hs hd (k H locs ls hP hD hS hl)
theorem a_mmin (F : Fx p s m args c cc own Ts nL D y ek A) {index : Nat} {x z : Int32} (hlk : Cond.methodLink own index Lib.Math.min.name ∈ Ts) (hst : Cond.static Lib.Math.min.name ∈ Ts) (hini : Cond.initialized "java/lang/Math" ∈ Ts) (hcode : Cond.code Lib.Math.min.name Lib.Math.min.code 2 (some .int) ∈ Ts) (hfr : 1 ≤ R.frames) (hlo : (st.map fun v => v.category).sum + 13 ≤ R.locals) (hc : cells ≤ R.cells) (hs : slots ≤ R.slots) (hd : decode cc pc = .ok (.invokestatic index, 3)) (k : At p l e R s m args below meth c Q D A nL cells slots (pc + 3) lv (.int (if z < x then z else x) :: st) bs) : At p l e R s m args below meth c Q D A nL cells slots pc lv (.int z :: .int x :: st) bs :=
  fun H locs ls hP hD hS hl => va_mmin F.1.1 F.1.2.1 (F.1.2.2.1.trans hl.1.symm) F.1.2.2.2.1 (F.1.2.2.2.2 _ hlk) (F.1.2.2.2.2 _ hst) (F.1.2.2.2.2 _ hini) (F.1.2.2.2.2 _ hcode) hfr hlo hc hs hd (k H locs ls hP hD hS hl)
theorem a_mabs (F : Fx p s m args c cc own Ts nL D y ek A) {index : Nat} {x : Int32} (hlk : Cond.methodLink own index Lib.Math.abs.name ∈ Ts) (hst : Cond.static Lib.Math.abs.name ∈ Ts) (hini : Cond.initialized "java/lang/Math" ∈ Ts) (hcode : Cond.code Lib.Math.abs.name Lib.Math.abs.code 1 (some .int) ∈ Ts) (hfr : 1 ≤ R.frames) (hlo : (st.map fun v => v.category).sum + 13 ≤ R.locals) (hc : cells ≤ R.cells) (hs : slots ≤ R.slots) (hd : decode cc pc = .ok (.invokestatic index, 3)) (k : At p l e R s m args below meth c Q D A nL cells slots (pc + 3) lv (.int (if 0 ≤ x then x else 0 - x) :: st) bs) : At p l e R s m args below meth c Q D A nL cells slots pc lv (.int x :: st) bs :=
  fun H locs ls hP hD hS hl => va_mabs F.1.1 F.1.2.1 (F.1.2.2.1.trans hl.1.symm) F.1.2.2.2.1 (F.1.2.2.2.2 _ hlk) (F.1.2.2.2.2 _ hst) (F.1.2.2.2.2 _ hini) (F.1.2.2.2.2 _ hcode) hfr hlo hc hs hd (k H locs ls hP hD hS hl)
end ATR
