section FBN
variable {l : Launch} {D : va_G} {tys : List (ClassId × FieldType)} {ws w1 : va_W}
/-- a method that answers an int (or a boolean): its walk, with the return's row given -/
theorem fb_meti {y : MethodName} {cc : ByteArray} {maxL : Nat} {ty : FieldType} {rm : Room} {av : List Value} {sz : Nat} {r : Int32} (hy : plainName y.cls = true) (hav : (lg_sl av).length ≤ maxL)
    (body : ∀ (p : Program) (e : Env) (s : State) (m : MethodId) (args : Array Value) (below : List Frame) (meth : Method) (c : Code) (A : Nat → Prop) (Q : State → Prop) (ls : Array Slot) (H : Heap), p.tables.exec = Jvm.exec → c.code = cc → c.maxLocals = maxL → s.vm.findClass y.cls = some m.cls → (∀ w ∈ fb_tb, w.before args s = true) →
      va_P D fb_cl ws H → va_K D fb_cl tys s → fb_N s → fb_Z A s s.heap → va_D A ws → (∀ q : Nat, s.heap.size ≤ q → A q) → va_S A s.heap H [] →
      (∀ (pc : Nat) (ls : Array Slot) (v : Int32) (H : Heap) (locs : List Loc), decode cc pc = .ok (.ireturn, 1) → narrow ty (.int v) = .int v → v = r → va_P D fb_cl w1 H → va_D A w1 → va_S A s.heap H locs → W p l e rm s m args below meth c H locs 0 0 Q (F0 m pc ls [.int v])) →
      lv_has ls maxL (lv_args 0 av) → W p l e rm s m args below meth c H [] 0 0 Q (F0 m 0 ls [])) :
    Met l y (Cond.code y cc maxL (some ty) :: fb_tb) rm (fb_Pc D av sz tys ws) (fb_Qi D r w1 (va_A ws sz)) 0 0 (va_A ws sz) := by
  refine fb_met (Qc := fun A => fb_Qi D r w1 A) hy ?_
  intro p e s m below meth c A hx hb hr hml hown hlocks hts hP hK hN hZ hD hA hS _
  have hl := lv_entry av (n := maxL) hav
  rw [lg_entry_eq]
  refine body p e s m av.toArray below meth c A _ _ s.heap hx hb hml hown hts hP hK hN hZ hD hA hS ?_ hl
  intro pc ls v H locs hd hn hv hP1 hD1 hS1
  exact W.zret (v := v) hx hb hr hn (fun t ht hW => ⟨⟨v, (), rfl, hv, by rw [ht]; exact hP1, hD1⟩, hS1.F ht⟩) hS1.2.2 hd hlocks
theorem fb_metv {y : MethodName} {cc : ByteArray} {maxL : Nat} {rm : Room} {av : List Value} {sz : Nat} (hy : plainName y.cls = true) (hav : (lg_sl av).length ≤ maxL)
    (body : ∀ (p : Program) (e : Env) (s : State) (m : MethodId) (args : Array Value) (below : List Frame) (meth : Method) (c : Code) (A : Nat → Prop) (Q : State → Prop) (ls : Array Slot) (H : Heap), p.tables.exec = Jvm.exec → c.code = cc → c.maxLocals = maxL → s.vm.findClass y.cls = some m.cls → (∀ w ∈ fb_tb, w.before args s = true) →
      va_P D fb_cl ws H → va_K D fb_cl tys s → fb_N s → fb_Z A s s.heap → va_D A ws → (∀ q : Nat, s.heap.size ≤ q → A q) → va_S A s.heap H [] →
      (∀ (pc : Nat) (ls : Array Slot) (H : Heap) (locs : List Loc), decode cc pc = .ok (.return_, 1) → va_P D fb_cl w1 H → va_D A w1 → va_S A s.heap H locs → W p l e rm s m args below meth c H locs 0 0 Q (F0 m pc ls [])) →
      lv_has ls maxL (lv_args 0 av) → W p l e rm s m args below meth c H [] 0 0 Q (F0 m 0 ls [])) :
    Met l y (Cond.code y cc maxL none :: fb_tb) rm (fb_Pc D av sz tys ws) (fb_Qv D w1 (va_A ws sz)) 0 0 (va_A ws sz) := by
  refine fb_met (Qc := fun A => fb_Qv D w1 A) hy ?_
  intro p e s m below meth c A hx hb hr hml hown hlocks hts hP hK hN hZ hD hA hS _
  have hl := lv_entry av (n := maxL) hav
  rw [lg_entry_eq]
  refine body p e s m av.toArray below meth c A _ _ s.heap hx hb hml hown hts hP hK hN hZ hD hA hS ?_ hl
  intro pc ls H locs hd hP1 hD1 hS1
  exact W.vret hx hb hr (fun t ht hW => ⟨⟨(), rfl, trivial, by rw [ht]; exact hP1, hD1⟩, hS1.F ht⟩) hS1.2.2 hd hlocks
end FBN
