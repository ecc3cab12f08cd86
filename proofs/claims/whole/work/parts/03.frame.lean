/-! What every contract here has in common: a method's own words are 'fb_tb'; its world is 'ws' at the entry, its end is told by a pure program's answer. -/
theorem fb_t {α : Type} {c : Prop} [Decidable c] {a b : Option α} {u : α} (hc : c) (h : (if c then a else b) = some u) : a = some u := by rw [if_pos hc] at h; exact h
theorem fb_f {α : Type} {c : Prop} [Decidable c] {a b : Option α} {u : α} (hc : ¬ c) (h : (if c then a else b) = some u) : b = some u := by rw [if_neg hc] at h; exact h
theorem fb_g {α : Type} {c : Prop} [Decidable c] {b : Option α} {u : α} (h : (if c then none else b) = some u) : ¬ c ∧ b = some u := by
  by_cases hc : c
  · rw [if_pos hc] at h; cases h
  · exact ⟨hc, fb_f hc h⟩
theorem fb_h {α : Type} {c : Prop} [Decidable c] {b : Option α} {u : α} (h : (if c then b else none) = some u) : c ∧ b = some u := by
  by_cases hc : c
  · exact ⟨hc, fb_t hc h⟩
  · rw [if_neg hc] at h; cases h
theorem fb_b {α β : Type} {x : Option β} {k : β → Option α} {u : α} (h : x.bind k = some u) : ∃ v, x = some v ∧ k v = some u := by
  cases x with
  | none => cases h
  | some v => exact ⟨v, rfl, h⟩
theorem fb_z {x : Int32} (h : x &&& 1 = x) : narrow .boolean (.int x) = .int x := by
  show Value.int (x &&& 1) = .int x
  rw [h]
/-- the fuel of a loop: more than any loop needs -/
def fb_F : Nat := 4294967296
/-- the constant row of the class -/
def fb_ord (j : Nat) : Int32 := ([16, 17, 18, 0, 8, 7, 9, 6, 10, 5, 11, 4, 12, 3, 13, 2, 14, 1, 15] : List Int32).getD j 0
def fb_Z (A : Nat → Prop) (U : State) (H : Heap) : Prop := ∃ t : Nat, va_Z "FlatBlocks" "ORDER" "[I" (.ref t) A U H ∧ va_T .int t 19 (fun j => .int (fb_ord j)) A U H
theorem fb_Z.moved {A : Nat → Prop} {u U : State} {H : Heap} (hvm : u.vm.Alike U.vm) (h : fb_Z A u H) : fb_Z A U H := by
  obtain ⟨t, h1, h2⟩ := h
  exact ⟨t, h1.moved hvm, h2.moved hvm⟩
theorem fb_Z.kept {A : Nat → Prop} {U : State} {H H1 : Heap} (h : fb_Z A U H) (hq : ∀ a : Nat, a < H.size → ¬ A a → H1[a]? = H[a]?) : fb_Z A U H1 := by
  obtain ⟨t, h1, h2⟩ := h
  exact ⟨t, h1.kept hq, h2.kept hq⟩
theorem fb_Z.narrow {A B : Nat → Prop} {U : State} {H : Heap} (h : fb_Z A U H) (hAB : ∀ q, B q → A q) : fb_Z B U H := by
  obtain ⟨t, h1, h2⟩ := h
  exact ⟨t, h1.narrow hAB, h2.narrow hAB⟩
/-- the start of a method -/
def fb_B (D : va_G) (sz : Nat) (tys : List (ClassId × FieldType)) (ws : va_W) (U : State) : Prop := U.heap.size = sz ∧ va_P D fb_cl ws U.heap ∧ va_K D fb_cl tys U ∧ fb_N U ∧ fb_Z (va_A ws sz) U U.heap ∧ va_D (fun _ => True) ws
def fb_Pc (D : va_G) (av : List Value) (sz : Nat) (tys : List (ClassId × FieldType)) (ws : va_W) : Array Value → State → Prop := va_Pc av (fb_B D sz tys ws)
/-- the end of a method: its answer, its world -/
def fb_Qi (D : va_G) (r : Int32) (w1 : va_W) (A : Nat → Prop) : Array Value → State → Outcome → State → Prop := va_Qi (S := Unit) (fun x _ => x = r) (fun _ t => va_P D fb_cl w1 t.heap ∧ va_D A w1) A
def fb_Qv (D : va_G) (w1 : va_W) (A : Nat → Prop) : Array Value → State → Outcome → State → Prop := va_Qv (S := Unit) (fun _ => True) (fun _ t => va_P D fb_cl w1 t.heap ∧ va_D A w1) A
theorem fb_blind (D : va_G) (av : List Value) (sz : Nat) (tys : List (ClassId × FieldType)) (ws : va_W) : FrameBlind (fb_Pc D av sz tys ws) := by
  intro a U g mk q
  obtain ⟨q0, q1, qP, qK, qN, qZ, qD⟩ := q
  exact ⟨q0, q1, qP, va_K.moved (u := U) (U := U.calling g mk a) (Vm.Alike.refl U.vm) qK, fb_N.same (u := U) (U := U.calling g mk a) rfl qN, fb_Z.moved (u := U) (U := U.calling g mk a) (Vm.Alike.refl U.vm) qZ, qD⟩
section FBM
variable {p : Program} {l : Launch} {e : Env} {R : Room} {s : State} {m : MethodId} {args : Array Value} {below : List Frame} {meth : Method} {c : Code} {H : Heap} {locs : List Loc} {cells slots : Nat} {Q : State → Prop}
variable {D : va_G} {tys tysc : List (ClassId × FieldType)} {ws wc wr w1 ws' : va_W} {A : Nat → Prop}
theorem fb_met {y : MethodName} {cc : ByteArray} {maxL : Nat} {ret : Option FieldType} {rm : Room} {av : List Value} {sz : Nat} {Qc : (Nat → Prop) → Array Value → State → Outcome → State → Prop} {mc ms : Nat} (hy : plainName y.cls = true)
    (body : ∀ (p : Program) (e : Env) (s : State) (m : MethodId) (below : List Frame) (meth : Method) (c : Code) (A : Nat → Prop), p.tables.exec = Jvm.exec → c.code = cc → meth.sig.returnType = ret → c.maxLocals = maxL → s.vm.findClass y.cls = some m.cls → meth.locks = false → (∀ w ∈ fb_tb, w.before av.toArray s = true) →
      va_P D fb_cl ws s.heap → va_K D fb_cl tys s → fb_N s → fb_Z A s s.heap → va_D A ws → (∀ q : Nat, s.heap.size ≤ q → A q) → va_S A s.heap s.heap [] → meth.name = y.name →
      W p l e (headSpec (Cond.code y cc maxL ret :: fb_tb) rm).room s m av.toArray below meth c s.heap [] 0 0 (MQ below (Qc A) av.toArray s mc ms A) (entryFrame m av.toArray maxL)) :
    Met l y (Cond.code y cc maxL ret :: fb_tb) rm (fb_Pc D av sz tys ws) (Qc (va_A ws sz)) mc ms (va_A ws sz) := by
  refine Met.ofW (cc := cc) (maxL := maxL) (ret := ret) hy rfl ?_
  intro p e s m args below meth c s₁ B hml hv
  obtain ⟨rfl, hsz, hP, hK, hN, hZ, hD0⟩ := hv
  have hts0 := atoms_spec (ws := Cond.code y cc maxL ret :: fb_tb) B.pre
  subst hsz
  exact body p e s m below meth c (va_A ws s.heap.size) B.exec B.bytes B.returns hml (findClass_of_methodNamed B.named) B.notSynchronized (fun w h => hts0 w (List.mem_cons_of_mem _ h)) hP hK hN hZ (hD0.self) (fun q h => Or.inr h) va_S.rf (name_of_methodNamed B.named B.method).1
/-- the callee's start, out of the caller's world -/
theorem fb_pre {av : List Value} {H0 : Heap} (hP : va_P D fb_cl ws H) (hD : va_D A ws) (hS : va_S A s.heap H locs) (hA : ∀ q : Nat, s.heap.size ≤ q → A q) (hK : va_K D fb_cl tys s) (hN : fb_N s) (hZ : fb_Z A s s.heap)
    (isC : List Nat) (hn : va_nd isC = true) (hC : isC.map (fun i => ws[i]?) = wc.map some) (isK : List Nat) (hKs : isK.filterMap (fun i => tys[i]?) = tysc) :
    ∀ U : State, U.heap = H → s.WarmedH U.vm → fb_Pc D av H.size tysc wc av.toArray U := by
  intro U hU hW
  have hF := va_free (wc := wc) hD hS hA isC hC
  refine ⟨rfl, by rw [hU], ?_, va_K.moved hW.alike (hK.sub isK hKs), hN.warm hW, ?_, (hD.sub isC hn hC).weaken (fun _ _ _ _ => trivial)⟩
  · rw [hU]
    intro k q hk
    have h1 : (isC.map (fun i => ws[i]?))[k]? = some (some q) := by rw [hC, List.getElem?_map, hk]; rfl
    rw [List.getElem?_map] at h1
    cases hi : isC[k]? with
    | none => rw [hi] at h1; cases h1
    | some i => rw [hi] at h1; exact hP i q (Option.some.inj h1)
  · rw [hU]
    exact fb_Z.narrow ((hZ.kept hS.2.1).moved hW.alike) hF
theorem fb_pS {av : List Value} (hP : va_P D fb_cl ws H) (hD : va_D A ws) (hS : va_S A s.heap H locs) (hA : ∀ q : Nat, s.heap.size ≤ q → A q) (hK : va_K D fb_cl tys s) (hN : fb_N s) (hZ : fb_Z A s s.heap)
    (isC : List Nat) (hn : va_nd isC = true) (hC : isC.map (fun i => ws[i]?) = wc.map some) (isK : List Nat) (hKs : isK.filterMap (fun i => tys[i]?) = tysc) :
    PreS s H (fb_Pc D av H.size tysc wc) av := ⟨fb_blind _ _ _ _ _, fb_pre (H0 := H) hP hD hS hA hK hN hZ isC hn hC isK hKs⟩
theorem fb_pV {b : Nat} {As : List Value} (hP : va_P D fb_cl ws H) (hD : va_D A ws) (hS : va_S A s.heap H locs) (hA : ∀ q : Nat, s.heap.size ≤ q → A q) (hK : va_K D fb_cl tys s) (hN : fb_N s) (hZ : fb_Z A s s.heap)
    (isC : List Nat) (hn : va_nd isC = true) (hC : isC.map (fun i => ws[i]?) = wc.map some) (isK : List Nat) (hKs : isK.filterMap (fun i => tys[i]?) = tysc) {q0 ci : Nat} {q : vw_C} {fs : List Value} (hc : fb_cl[ci]? = some q) (he : ws[q0]? = some (b, .inr (ci, fs))) :
    PreV s H q.1 b (fb_Pc D (.ref b :: As) H.size tysc wc) As := ⟨fb_blind _ _ _ _ _, va_recv hK hP hc he, fb_pre (H0 := H) hP hD hS hA hK hN hZ isC hn hC isK hKs⟩
variable {pc : Nat} {ls : Array Slot} {rest st0 : List Value} {a : Array Value}
/-- behind a call: the caller's world again, in its own order -/
theorem fb_back {H1 : Heap} (hP : va_P D fb_cl ws H) (hD : va_D A ws) (hS : va_S A s.heap H locs) (hA : ∀ q : Nat, s.heap.size ≤ q → A q) (isC isR : List Nat) (hC : isC.map (fun i => ws[i]?) = wc.map some) (hR : isR.map (fun i => ws[i]?) = wr.map some) (hn : va_nd isR = true) (hdis : ∀ i ∈ isR, i ∉ isC)
    (is' : List Nat) (hn' : va_nd is' = true) (h' : is'.map (fun i => (wr ++ w1)[i]?) = ws'.map some)
    (hk : ∀ q : Nat, q < H.size → ¬ va_A wc H.size q → H1[q]? = H[q]?) (hP1 : va_P D fb_cl w1 H1) (hD1 : va_D (va_A wc H.size) w1) : va_P D fb_cl ws' H1 ∧ va_D A ws' := by
  obtain ⟨hPj, hDj⟩ := va_join hP hD isC isR hC hR hn hdis hk (va_free (wc := wc) hD hS hA isC hC) hP1 hD1
  refine ⟨?_, hDj.sub is' hn' h'⟩
  intro k q hkq
  have h1 : (is'.map (fun i => (wr ++ w1)[i]?))[k]? = some (some q) := by rw [h', List.getElem?_map, hkq]; rfl
  rw [List.getElem?_map] at h1
  cases hi : is'[k]? with
  | none => rw [hi] at h1; cases h1
  | some i => rw [hi] at h1; exact hPj i q (Option.some.inj h1)
theorem fb_ci {r : Int32} (hr : va_Run p l e R s m args below meth c H locs cells slots 0 0 (F0 m pc ls st0) rest (fb_Qi D r w1 (va_A wc H.size) a) (va_A wc H.size)) (hP : va_P D fb_cl ws H) (hD : va_D A ws) (hS : va_S A s.heap H locs) (hA : ∀ q : Nat, s.heap.size ≤ q → A q)
    (isC isR : List Nat) (hC : isC.map (fun i => ws[i]?) = wc.map some) (hR : isR.map (fun i => ws[i]?) = wr.map some) (hn : va_nd isR = true) (hdis : ∀ i ∈ isR, i ∉ isC) (is' : List Nat) (hn' : va_nd is' = true) (h' : is'.map (fun i => (wr ++ w1)[i]?) = ws'.map some)
    (kk : ∀ (H1 : Heap) (locs1 : List Loc), va_P D fb_cl ws' H1 → va_D A ws' → va_S A s.heap H1 locs1 → W p l e R s m args below meth c H1 locs1 cells slots Q (F0 m (pc + 3) ls (.int r :: rest))) : W p l e R s m args below meth c H locs cells slots Q (F0 m pc ls st0) := by
  have hF := va_free (wc := wc) hD hS hA isC hC
  refine va_calli hr hS (fun q _ h => hF q h) hF (fun r' u t H1 locs1 ht hvm hw hB hz1 hk1 hS1 => ?_)
  obtain ⟨hP1, hD1⟩ := hB
  rw [ht] at hP1
  obtain ⟨hP2, hD2⟩ := fb_back hP hD hS hA isC isR hC hR hn hdis is' hn' h' hk1 hP1 hD1
  rw [hw]
  exact kk H1 locs1 hP2 hD2 hS1
theorem fb_cv (hr : va_Run p l e R s m args below meth c H locs cells slots 0 0 (F0 m pc ls st0) rest (fb_Qv D w1 (va_A wc H.size) a) (va_A wc H.size)) (hP : va_P D fb_cl ws H) (hD : va_D A ws) (hS : va_S A s.heap H locs) (hA : ∀ q : Nat, s.heap.size ≤ q → A q)
    (isC isR : List Nat) (hC : isC.map (fun i => ws[i]?) = wc.map some) (hR : isR.map (fun i => ws[i]?) = wr.map some) (hn : va_nd isR = true) (hdis : ∀ i ∈ isR, i ∉ isC) (is' : List Nat) (hn' : va_nd is' = true) (h' : is'.map (fun i => (wr ++ w1)[i]?) = ws'.map some)
    (kk : ∀ (H1 : Heap) (locs1 : List Loc), va_P D fb_cl ws' H1 → va_D A ws' → va_S A s.heap H1 locs1 → W p l e R s m args below meth c H1 locs1 cells slots Q (F0 m (pc + 3) ls rest)) : W p l e R s m args below meth c H locs cells slots Q (F0 m pc ls st0) := by
  have hF := va_free (wc := wc) hD hS hA isC hC
  refine va_callv hr hS (fun q _ h => hF q h) hF (fun u t H1 locs1 ht hvm hw hB hz1 hk1 hS1 => ?_)
  obtain ⟨hP1, hD1⟩ := hB
  rw [ht] at hP1
  obtain ⟨hP2, hD2⟩ := fb_back hP hD hS hA isC isR hC hR hn hdis is' hn' h' hk1 hP1 hD1
  exact kk H1 locs1 hP2 hD2 hS1
end FBM
