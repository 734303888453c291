/-- ldc_w of a float -/
theorem zx_ldcwF {p : Program} {l : Launch} {e : Env} {R : Room} {s : State} {m : MethodId} {args : Array Value} {below : List Frame} {meth : Method} {c : Code} {locs : List Loc} {cells slots : Nat} {T : State} (X : Stand p l e R s m args below meth c T locs cells slots) (hexec : p.tables.exec = Jvm.exec) {own : String} {index : Nat} {v : UInt32} (hown : s.vm.findClass own = some m.cls)
    (hconst : (Cond.constantFloat own index v).before args s = true) {g : JFrame} (hg : g.method = m) (hdg : decode c.code g.pc = .ok (.ldc_w index, 3)) :
    ∀ target, Steps p.tables e below (T.setTop { g with pc := g.pc + 3, stack := .float v :: g.stack }) target → Steps p.tables e below (T.setTop g) target := by
  obtain ⟨k, cf, hk, hcf, hcp⟩ := Cond.constantFloat_spec hown hconst
  obtain ⟨k', hk', he⟩ := X.warmed.alike.2.2 _ _ hk
  intro target hrest
  subst hg
  jvm_step X.here [hexec, hdg, ldc_w.wp_float (s := T) (f := g) X.here.top hk' (by rw [he]; exact hcf) hcp]
  exact hrest
section ZEXTRA
variable {α : Type} {enc : α → Option Value × ZH} {b0 : Nat} {Y : zY} {d pc : Nat} {lv lv2 : List (Nat × Value)} {st : List Value} {h : ZH} {r : Option α}
theorem z_callSr {Y' : zY} {d' idx n : Nat} {as : List Value} {st0 : List Value} {r' : Option (Nat × ZH)} {f : Nat × ZH → Option α} (pc2 : Nat) (hM : ZM (zr b0) b0 Y' d' as h r') (hy : zYok Y' n) (hn : as.length = n) (hw : Cond.methodLink (yo Y) idx (yn Y') ∈ zgw) (hst : Cond.static (yn Y') ∈ zgw) (hdep : d' + 1 ≤ d) (hs0 : st0 = as.reverse ++ st) (hcat : (st.map fun v => v.category).sum ≤ 8) (hd : decode (yc Y) pc = .ok (.invokestatic idx, 3)) (e : pc + 3 = pc2)
    (kk : ∀ q, Zr enc b0 Y d pc2 lv (.ref (b0 + q.1) :: st) q.2 (f q)) : Zr enc b0 Y d pc lv st0 h (r'.bind f) :=
  z_callS (enc' := (zr b0)) pc2 hM hy hn hw hst hdep hs0 hcat hd e (fun q _ => kk q)
theorem z_ldcwf {n : Nat} {v : UInt32} (pc2 : Nat) (hw : Cond.constantFloat (yo Y) n v ∈ zgw) (hd : decode (yc Y) pc = .ok (.ldc_w n, 3)) (e : pc + 3 = pc2) (k : Zr enc b0 Y d pc2 lv (.float v :: st) h r) : Zr enc b0 Y d pc lv st h r := by
  subst e
  refine k.step (fun D CA p l e R s m args below meth c H locs ls n0 cells slots Q hA hc hs hl hP hS kk => ?_)
  intro T hT X
  obtain ⟨t, a, b⟩ := kk _ hl T hT X
  exact ⟨t, zx_ldcwF X hA.1 hA.2.2.2.1 (hA.2.2.2.2.1 _ hw) (g := F0 m pc ls st) rfl (by rw [hA.2.1]; exact hd) t a, b⟩
end ZEXTRA
