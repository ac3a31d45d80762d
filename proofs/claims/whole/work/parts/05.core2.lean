-- CORE2: constructors
def nestL : List (String × Nat × MethodName) := [("SlowPaths", 11, yX4_init), ("SlowPaths", 18, yX0_init), ("SlowPaths", 25, yX6_init), ("SlowPaths", 32, yX5_init), ("SlowPaths", 46, yX1_init), ("SlowPaths", 53, yX3_init), ("SlowPaths$PairTable", 11, yX1_init), ("SlowPaths", 60, yX8_init), ("SlowPaths", 67, yX7_init), ("SlowPaths", 74, yX2_init)]
def En (U : State) : Prop := (∀ q ∈ nestL, va_Nw (.methodLinkNest q.1 q.2.1 q.2.2 "SlowPaths") U) ∧ va_AO "SlowPaths$Setting" U
theorem En.warm {s U : State} (hW : s.WarmedH U.vm) (h : En s) : En U := ⟨fun q hq => va_Nw.warmM hW (h.1 q hq), va_AO.moved hW.alike h.2⟩
theorem En.same {u U : State} (hv : u.vm = U.vm) (h : En u) : En U := ⟨fun q hq => va_Nw.same rfl hv (h.1 q hq), va_AO.moved (by rw [hv]; exact Vm.Alike.refl _) h.2⟩
def MetN (l : Launch) (y : MethodName) (wsl : List Cond) (rm : Room) (D : va_G) (tys : List (ClassId × FieldType)) (w : va_W) (sz : Nat) (av : List Value) (Pw : va_W → Prop) (mc ms : Nat) : Prop := Met l y wsl rm (fun a U => Pcw D tys w sz av a U ∧ En U) (va_Qv (fun (_ : Unit) => True) (fun _ t => ∃ w', Pw w' ∧ va_P D vwCl w' t.heap ∧ va_K D vwCl tys t ∧ va_D (va_A w sz) w') (va_A w sz)) mc ms (va_A w sz)
abbrev QN (D : va_G) (tys : List (ClassId × FieldType)) (A : Nat → Prop) (Pw : va_W → Prop) := va_Qv (fun (_ : Unit) => True) (fun _ t => ∃ w', Pw w' ∧ va_P D vwCl w' t.heap ∧ va_K D vwCl tys t ∧ va_D A w') A
theorem entN {l : Launch} {y : MethodName} {wsl ws2 : List Cond} {rm : Room} {D : va_G} {tys : List (ClassId × FieldType)} {w : va_W} {sz : Nat} {av : List Value} {Pw : va_W → Prop} {mc ms : Nat} {cc : ByteArray} {maxL : Nat} {own : String} (hy : plainName y.cls = true) (ho : y.cls = own) (hnm : y.name = "<init>") (hwsl : wsl = Cond.code y cc maxL none :: ws2) (hlen : (lg_sl av).length ≤ maxL)
    (body : ∀ (p : Program) (e : Env) (s : State) (m : MethodId) (args : Array Value) (below : List Frame) (meth : Method) (c : Code) (A : Nat → Prop) (ls : Array Slot) (Q : State → Prop), Fix p m meth c cc maxL s args wsl own → meth.name = "<init>" → meth.sig.returnType = none → En s → Wd D tys A s w s.heap [] → lv_has ls maxL (lv_args 0 av) → Q = MQ below (QN D tys A Pw) args s mc ms A → W p l e rm s m args below meth c s.heap [] 0 0 Q (F0 m 0 ls [])) : MetN l y wsl rm D tys w sz av Pw mc ms := by
  refine Met.ofW (cc := cc) (maxL := maxL) (ret := none) hy hwsl ?_
  intro p e s m args below meth c s₁ B hml hv
  obtain ⟨⟨rfl, hsz, hP, hK, hD0, hZ⟩, hE⟩ := hv
  have hx := B.exec
  have hb := B.bytes
  have hr := B.returns
  have hts := atoms_spec (ws := wsl) B.pre
  have hown : s.vm.findClass y.cls = some m.cls := findClass_of_methodNamed B.named
  have hlocks := B.notSynchronized
  have hin : meth.name = y.name := (name_of_methodNamed B.named B.method).1
  subst hsz
  subst ho
  have hl := lv_entry av (n := maxL) hlen
  rw [lg_entry_eq]
  exact body p e s m _ below meth c (va_A w s.heap.size) _ _ ⟨⟨hx, hb, hml, hown, hts⟩, hlocks⟩ (hin.trans hnm) hr hE ⟨hK, hP, hD0.self (sz := s.heap.size), va_S.rf, (fun q h => Or.inr h), hZ⟩ hl rfl
section CR2
variable {p : Program} {l : Launch} {e : Env} {R : Room} {s : State} {m : MethodId} {args : Array Value} {below : List Frame} {meth : Method} {c : Code} {H : Heap} {locs : List Loc} {cells slots : Nat} {Q : State → Prop}
variable {D : va_G} {tys : List (ClassId × FieldType)} {A : Nat → Prop} {ws : va_W} {cc : ByteArray} {nL pc : Nat} {Ts : List Cond} {own : String} {ls : Array Slot} {rest : List Value}
theorem z_vretN {w' : va_W} {Pw : va_W → Prop} (S : Fix p m meth c cc nL s args Ts own) (hQ : Q = MQ below (QN D tys A Pw) args s cells slots A) (hr : meth.sig.returnType = none) (hw : Wd D tys A s ws H locs) (is : List Nat) (hn : va_nd is = true) (hs : is.map (fun i => ws[i]?) = w'.map some) (hpw : Pw w') (hdg : decode cc pc = .ok (.return_, 1)) : W p l e R s m args below meth c H locs cells slots Q (F0 m pc ls []) := by
  subst hQ
  have hlocks := S.2
  have h9 := hw.sub is hn hs
  exact W.vret S.1.1 S.1.2.1 hr (fun t ht hW => ⟨⟨(), rfl, trivial, w', hpw, by rw [ht]; exact h9.2.1, va_K.moved hW.alike h9.1, h9.2.2.1⟩, h9.2.2.2.1.F ht⟩) h9.2.2.2.1.2.2 hdg
theorem z_new {C : String} {T : u_T} {N ci index : Nat} {ty0 : Nat → FieldType} {fs : List Value} (S : Fix p m meth c cc nL s args Ts own) (hw : Wd D tys A s ws H locs) (hin : ∀ w ∈ u_ws C T N, w ∈ Ts) (hty : ∀ k, k < N → parseFieldDescriptor (T k).2.2.1 = some (ty0 k)) (hc : vwCl[ci]? = some (C, T, N)) (hcl : (Cond.classLink own index C).before args s = true) (hinst : (Cond.instantiable C N).before args s = true) (hini : (Cond.initialized C).before args s = true) (hfs : ∀ j, j < N → defaultValue (ty0 j) = vp_V fs j) (hcells : cells + 1 ≤ R.cells) (hslots : slots + N ≤ R.slots) (hdg : decode cc pc = .ok (.new index, 3))
    (kk : ∀ (q : Nat) (H : Heap), Wd D tys A s (ws ++ [(q, .inr (ci, fs))]) H locs → W p l e R s m args below meth c H locs (cells + 1) (slots + N) Q (F0 m (pc + 3) ls (.ref q :: rest))) : W p l e R s m args below meth c H locs cells slots Q (F0 m pc ls rest) :=
  va_new (ci := ci) (fs := fs) (C := C) (T := T) (N := N) S.1.1 S.1.2.1 S.1.2.2.2.2 hin ty0 hty S.1.2.2.2.1 hcl hinst hini hw.1 hw.2.1 hw.2.2.1 hw.2.2.2.1 hw.2.2.2.2.1 hc hfs hcells hslots hdg (fun q H1 h1 h2 h3 => kk q H1 ⟨hw.1, h1, h2, h3, hw.2.2.2.2⟩)
theorem RA_one {cA cB : ClassId} {ty : FieldType} (h1 : va_RA s cA ty) (h2 : va_RA s cB ty) : cA = cB := by
  cases ty with
  | object C =>
    obtain ⟨-, -, -, -, -, g1⟩ := h1
    obtain ⟨-, -, -, -, -, g2⟩ := h2
    exact Option.some.inj (g1.symm.trans g2)
  | _ => exact Option.some.inj (Eq.trans (Eq.symm h1) h2)
theorem K_last {cA cB : ClassId} {ty : FieldType} {t0 : Nat} (hK : va_K D vwCl tys s) (ht : tys[t0]? = some (cB, ty)) (h1 : va_K D vwCl (tys ++ [(cA, ty)]) s) : cA = cB :=
  RA_one ((h1.2 tys.length (cA, ty) (by simp)).2) ((hK.2 t0 (cB, ty) ht).2)
theorem z_newa {atype : ArrayType} {ty : FieldType} {cA : ClassId} {n : Int32} {N' : Nat} {a0 : vp_A} (S : Fix p m meth c cc nL s args Ts own) (hw : Wd D tys A s ws H locs) (harr : (Cond.arrayClass (newarray.typeOf atype)).before args s = true) (hty : newarray.typeOf atype = ty) (t0 : Nat) (ht : tys[t0]? = some (cA, ty)) (ha : ∀ cA : ClassId, vp_cell cA a0 = arrV cA N' (fun _ => defaultValue ty)) (hn : ¬ n < 0) (hN : n.toNatClampNeg = N') (hbytes : N' * componentBytes ty ≤ 536870912) (hcells : cells + 1 ≤ R.cells) (hslots : slots + N' ≤ R.slots) (hdg : decode cc pc = .ok (.newarray atype, 2))
    (kk : ∀ (q : Nat) (H : Heap), Wd D tys A s (ws ++ [(q, .inl (cA, a0))]) H locs → W p l e R s m args below meth c H locs (cells + 1) (slots + N') Q (F0 m (pc + 2) ls (.ref q :: rest))) : W p l e R s m args below meth c H locs cells slots Q (F0 m pc ls (.int n :: rest)) :=
  va_newa S.1.1 S.1.2.1 harr hty hw.1 hw.2.1 hw.2.2.1 hw.2.2.2.1 hw.2.2.2.2.1 (a0 := a0) ha hn hN hbytes hcells hslots hdg (fun q cB H1 hK1 h1 h2 h3 => by
    have e := K_last hw.1 ht hK1
    subst e
    exact kk q H1 ⟨hw.1, h1, h2, h3, hw.2.2.2.2⟩)
theorem z_newq {C : String} {cA : ClassId} {index : Nat} {n : Int32} {N' : Nat} (S : Fix p m meth c cc nL s args Ts own) (hw : Wd D tys A s ws H locs) (hclink : (Cond.classLink own index C).before args s = true) (hover : va_AO C s) (t0 : Nat) (ht : tys[t0]? = some (cA, .object C)) (hn : ¬ n < 0) (hN : n.toNatClampNeg = N') (hbytes : N' * 4 ≤ 536870912) (hcells : cells + 1 ≤ R.cells) (hslots : slots + N' ≤ R.slots) (hdg : decode cc pc = .ok (.anewarray index, 3))
    (kk : ∀ (q : Nat) (H : Heap), Wd D tys A s (ws ++ [(q, .inl (cA, N', .inr (.inr (.inr (.inr (fun _ => none))))))]) H locs → W p l e R s m args below meth c H locs (cells + 1) (slots + N') Q (F0 m (pc + 3) ls (.ref q :: rest))) : W p l e R s m args below meth c H locs cells slots Q (F0 m pc ls (.int n :: rest)) :=
  va_newq S.1.1 S.1.2.1 S.1.2.2.2.1 hclink hover hw.1 hw.2.1 hw.2.2.1 hw.2.2.2.1 hw.2.2.2.2.1 hn hN hbytes hcells hslots hdg (fun q cB H1 hK1 h1 h2 h3 => by
    have e := K_last hw.1 ht hK1
    subst e
    exact kk q H1 ⟨hw.1, h1, h2, h3, hw.2.2.2.2⟩)
theorem z_astq {a : Nat} {cA : ClassId} {r : vw_C} {n v : Nat} {vs : List Value} {f f1 : Nat → Option Nat} {i : Int32} (S : Fix p m meth c cc nL s args Ts own) (hw : Wd D tys A s ws H locs) (q0 t0 qk ci : Nat) (ef : va_up f i.toNatClampNeg (some v) = f1) (ha : ws[q0]? = some (a, .inl (cA, n, .inr (.inr (.inr (.inr f)))))) (ht : tys[t0]? = some (cA, .object r.1)) (hv : ws[qk]? = some (v, .inr (ci, vs))) (hc : vwCl[ci]? = some r) (hin : inb i n = true) (hdg : decode cc pc = .ok (.aastore, 1))
    (kk : ∀ (H : Heap) (locs : List Loc), Wd D tys A s (ws.set q0 (a, .inl (cA, n, .inr (.inr (.inr (.inr f1)))))) H locs → W p l e R s m args below meth c H locs cells slots Q (F0 m (pc + 1) ls rest)) : W p l e R s m args below meth c H locs cells slots Q (F0 m pc ls (.ref v :: .int i :: .ref a :: rest)) := by
  subst ef
  exact va_astq S.1.1 S.1.2.1 hw.1 hw.2.1 hw.2.2.1 hw.2.2.2.1 q0 t0 qk ci ha ht hv hc (inb_in hin) hdg (fun H1 locs1 h1 h2 h3 => kk H1 locs1 ⟨hw.1, h1, h2, h3, hw.2.2.2.2⟩)
variable {y : MethodName} {bytes : ByteArray} {maxL index : Nat} {wsl : List Cond} {rm : Room} {b : Addr} {wc wr : va_W} {st : List Value} {Pw : va_W → Prop} {mc1 ms1 : Nat} {host : String}
theorem PcwN_blind {sz : Nat} {av : List Value} {w : va_W} : FrameBlind (fun a U => Pcw D tys w sz av a U ∧ En U) := fun a U g mk q => ⟨Pcw_blind a U g mk q.1, En.same (u := U) (U := U.calling g mk a) rfl q.2⟩
theorem Wd_joinN {H1 : Heap} {locs1 : List Loc} {t : State} {wc' : va_W} (hw : Wd D tys A s ws H locs) (isC isR : List Nat) (hC : isC.map (fun i => ws[i]?) = wc.map some) (hR : isR.map (fun i => ws[i]?) = wr.map some) (hn : va_nd isR = true) (hdis : ∀ i ∈ isR, i ∉ isC) (ht : t.heap = H1) (hP1 : va_P D vwCl wc' t.heap) (hD1 : va_D (va_A wc H.size) wc') (hk1 : ∀ q : Nat, q < H.size → ¬ va_A wc H.size q → H1[q]? = H[q]?) (hS1 : va_S A s.heap H1 locs1) : Wd D tys A s (wr ++ wc') H1 locs1 := by
  rw [ht] at hP1
  have hF := va_free (wc := wc) hw.2.2.1 hw.2.2.2.1 hw.2.2.2.2.1 isC hC
  obtain ⟨hP2, hD2⟩ := va_join (wr := wr) (w1 := wc') hw.2.1 hw.2.2.1 isC isR hC hR hn hdis hk1 hF hP1 hD1
  exact ⟨hw.1, hP2, hD2, hS1, hw.2.2.2.2⟩
theorem zc_N (S : Fix p m meth c cc nL s args Ts own) (hE : En s) (hw : Wd D tys A s ws H locs) (hM : MetN l y wsl rm D tys wc H.size [.ref b] Pw mc1 ms1) (cw : va_CN R s args own index y host bytes maxL none wsl rm mc1 ms1 0 ∧ y.name = "<init>" ∧ (Cond.instanceMethod y).before args s = true) (isC isR : List Nat) (hC : isC.map (fun i => ws[i]?) = wc.map some) (hR : isR.map (fun i => ws[i]?) = wr.map some) (hnC : va_nd isC = true) (hn : va_nd isR = true) (hdis : ∀ i ∈ isR, i ∉ isC) (hsize : ls.size = nL) (hst : st = .ref b :: rest) (hW : (rest.map fun v => v.category).sum ≤ 8) (hdg : decode cc pc = .ok (.invokespecial index, 3)) (hf : cells + mc1 ≤ R.cells ∧ slots + ms1 ≤ R.slots)
    (kk : ∀ (H : Heap) (locs : List Loc) (w' : va_W), Pw w' → Wd D tys A s (wr ++ w') H locs → W p l e R s m args below meth c H locs (cells + mc1) (slots + ms1) Q (F0 m (pc + 3) ls rest)) : W p l e R s m args below meth c H locs cells slots Q (F0 m pc ls st) := by
  have hF := va_free (wc := wc) hw.2.2.1 hw.2.2.2.1 hw.2.2.2.2.1 isC hC
  refine va_callv (va_runIN (As := []) (rest := rest) S.1 hM cw ⟨PcwN_blind, fun U hU hW => ⟨Pcw_at hw isC hnC hC U hU hW, En.warm hW hE⟩⟩ rfl rfl hsize hst (lv_room hW) hdg hf) hw.2.2.2.1 (fun q _ h => hF q h) hF (fun u t H1 locs1 ht hvm hp hB hz1 hk1 hS => ?_)
  cases u
  obtain ⟨w', hpw, hP1, -, hD1⟩ := hB
  exact kk H1 locs1 w' hpw (Wd_joinN hw isC isR hC hR hn hdis ht hP1 hD1 hk1 hS)
theorem zc_NI (S : Fix p m meth c cc nL s args Ts own) (hE : En s) (hw : Wd D tys A s ws H locs) (hM : MetN l y wsl rm D tys wc H.size [.ref b] Pw mc1 ms1) (cw : CallB R s args own index y bytes maxL none wsl rm mc1 ms1 0 ∧ y.name = "<init>" ∧ (Cond.instanceMethod y).before args s = true) (isC isR : List Nat) (hC : isC.map (fun i => ws[i]?) = wc.map some) (hR : isR.map (fun i => ws[i]?) = wr.map some) (hnC : va_nd isC = true) (hn : va_nd isR = true) (hdis : ∀ i ∈ isR, i ∉ isC) (hsize : ls.size = nL) (hst : st = .ref b :: rest) (hW : (rest.map fun v => v.category).sum ≤ 8) (hdg : decode cc pc = .ok (.invokespecial index, 3)) (hf : cells + mc1 ≤ R.cells ∧ slots + ms1 ≤ R.slots)
    (kk : ∀ (H : Heap) (locs : List Loc) (w' : va_W), Pw w' → Wd D tys A s (wr ++ w') H locs → W p l e R s m args below meth c H locs (cells + mc1) (slots + ms1) Q (F0 m (pc + 3) ls rest)) : W p l e R s m args below meth c H locs cells slots Q (F0 m pc ls st) := by
  have hF := va_free (wc := wc) hw.2.2.1 hw.2.2.2.1 hw.2.2.2.2.1 isC hC
  refine va_callv (va_runI (As := []) (rest := rest) S.1 hM cw ⟨PcwN_blind, fun U hU hW => ⟨Pcw_at hw isC hnC hC U hU hW, En.warm hW hE⟩⟩ rfl rfl hsize hst (lv_room hW) hdg hf) hw.2.2.2.1 (fun q _ h => hF q h) hF (fun u t H1 locs1 ht hvm hp hB hz1 hk1 hS => ?_)
  cases u
  obtain ⟨w', hpw, hP1, -, hD1⟩ := hB
  exact kk H1 locs1 w' hpw (Wd_joinN hw isC isR hC hR hn hdis ht hP1 hD1 hk1 hS)
end CR2
