section CTX2
variable {p : Program} {l : Launch} {e : Env} {R : Room} {s : State} {m : MethodId} {args : Array Value} {below : List Frame} {meth : Method} {c : Code} {H : Heap} {locs : List Loc} {cells slots : Nat} {Q : State → Prop}
variable {cc : ByteArray} {pc : Nat} {ls : Array Slot} {rest : List Value} {D : mmD} {b0 : Nat}
theorem m_getsK {kn : Nat} (ek : kn = D.2 9) (hexec : p.tables.exec = Jvm.exec) (hb : c.code = cc) {own : String} {index : Nat} (hK : KK D b0 s) (hS : mS b0 s H locs) (hown : s.vm.findClass own = some m.cls) (hlink : (Cond.fieldLink own index RX6 "KNOWN" "[I").before args s = true) (hdg : decode cc pc = .ok (.getstatic index, 3))
    (kk : W p l e R s m args below meth c H locs cells slots Q (F0 m (pc + 3) ls (.ref kn :: rest))) : W p l e R s m args below meth c H locs cells slots Q (F0 m pc ls rest) := by
  subst ek
  exact m_gets hexec hb hK hS hown hlink hdg kk
end CTX2
