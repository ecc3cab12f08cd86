/-- the end of a constructor: cells have come, at addresses 'ad', arrays of the classes 'cd' -/
def fb_Qn (D : va_G) (w1 : (Nat → Nat) → (Nat → ClassId) → va_W) (t1 : (Nat → Nat) → (Nat → ClassId) → List (ClassId × FieldType)) (A : Nat → Prop) : Array Value → State → Outcome → State → Prop :=
  va_Qv (S := (Nat → Nat) × (Nat → ClassId)) (fun _ => True) (fun u t => va_P D fb_cl (w1 u.1 u.2) t.heap ∧ va_K D fb_cl (t1 u.1 u.2) t ∧ va_D A (w1 u.1 u.2)) A
section FBC
variable {p : Program} {l : Launch} {e : Env} {R : Room} {s : State} {m : MethodId} {args : Array Value} {below : List Frame} {meth : Method} {c : Code} {H : Heap} {locs : List Loc} {cells slots : Nat} {Q : State → Prop}
variable {D : va_G} {tys : List (ClassId × FieldType)} {ws wc wr : va_W} {w1 : (Nat → Nat) → (Nat → ClassId) → va_W} {t1 : (Nat → Nat) → (Nat → ClassId) → List (ClassId × FieldType)} {A : Nat → Prop}
theorem fb_metn {y : MethodName} {cc : ByteArray} {maxL mc ms : Nat} {rm : Room} {av : List Value} {sz : Nat} (hy : plainName y.cls = true) (hav : (lg_sl av).length ≤ maxL)
    (body : ∀ (p : Program) (e : Env) (s : State) (m : MethodId) (args : Array Value) (below : List Frame) (meth : Method) (c : Code) (A : Nat → Prop) (Q : State → Prop) (ls : Array Slot) (H : Heap), p.tables.exec = Jvm.exec → c.code = cc → c.maxLocals = maxL → s.vm.findClass y.cls = some m.cls → (∀ w ∈ fb_tb, w.before args s = true) →
      va_P D fb_cl ws H → va_K D fb_cl tys s → fb_N s → fb_Z A s s.heap → va_D A ws → (∀ q : Nat, s.heap.size ≤ q → A q) → va_S A s.heap H [] → meth.name = y.name →
      (∀ (pc : Nat) (ls : Array Slot) (H : Heap) (locs : List Loc) (ad : Nat → Nat) (cd : Nat → ClassId), decode cc pc = .ok (.return_, 1) → va_P D fb_cl (w1 ad cd) H → va_K D fb_cl (t1 ad cd) s → va_D A (w1 ad cd) → va_S A s.heap H locs → W p l e rm s m args below meth c H locs mc ms Q (F0 m pc ls [])) →
      lv_has ls maxL (lv_args 0 av) → W p l e rm s m args below meth c H [] 0 0 Q (F0 m 0 ls [])) :
    Met l y (Cond.code y cc maxL none :: fb_tb) rm (fb_Pc D av sz tys ws) (fb_Qn D w1 t1 (va_A ws sz)) mc ms (va_A ws sz) := by
  refine fb_met (Qc := fun A => fb_Qn D w1 t1 A) hy ?_
  intro p e s m below meth c A hx hb hr hml hown hlocks hts hP hK hN hZ hD hA hS hin
  have hl := lv_entry av (n := maxL) hav
  rw [lg_entry_eq]
  refine body p e s m av.toArray below meth c A _ _ s.heap hx hb hml hown hts hP hK hN hZ hD hA hS hin ?_ hl
  intro pc ls H locs ad cd hd hP1 hK1 hD1 hS1
  exact W.vret hx hb hr (fun t ht hW => ⟨⟨(ad, cd), rfl, trivial, by rw [ht]; exact hP1, va_K.moved hW.alike hK1, hD1⟩, hS1.F ht⟩) hS1.2.2 hd hlocks
variable {pc mc ms : Nat} {ls : Array Slot} {rest st0 : List Value} {a : Array Value}
theorem fb_cn (hr : va_Run p l e R s m args below meth c H locs cells slots mc ms (F0 m pc ls st0) rest (fb_Qn D w1 t1 (va_A wc H.size) a) (va_A wc H.size)) (hP : va_P D fb_cl ws H) (hD : va_D A ws) (hS : va_S A s.heap H locs) (hA : ∀ q : Nat, s.heap.size ≤ q → A q) (hK : va_K D fb_cl tys s)
    (isC isR : List Nat) (hC : isC.map (fun i => ws[i]?) = wc.map some) (hR : isR.map (fun i => ws[i]?) = wr.map some) (hn : va_nd isR = true) (hdis : ∀ i ∈ isR, i ∉ isC)
    (kk : ∀ (ad : Nat → Nat) (cd : Nat → ClassId) (H1 : Heap) (locs1 : List Loc), va_P D fb_cl (wr ++ w1 ad cd) H1 → va_D A (wr ++ w1 ad cd) → va_K D fb_cl (tys ++ t1 ad cd) s → va_S A s.heap H1 locs1 → W p l e R s m args below meth c H1 locs1 (cells + mc) (slots + ms) Q (F0 m (pc + 3) ls rest)) : W p l e R s m args below meth c H locs cells slots Q (F0 m pc ls st0) := by
  have hF := va_free (wc := wc) hD hS hA isC hC
  refine va_callv hr hS (fun q _ h => hF q h) hF (fun u t H1 locs1 ht hvm hw hB hz1 hk1 hS1 => ?_)
  obtain ⟨hP1, hK1, hD1⟩ := hB
  rw [ht] at hP1
  obtain ⟨hPj, hDj⟩ := va_join hP hD isC isR hC hR hn hdis hk1 hF hP1 hD1
  exact kk u.1 u.2 H1 locs1 hPj hDj (hK.app (va_K.moved hvm.symm hK1)) hS1
end FBC
