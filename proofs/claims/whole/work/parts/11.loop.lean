/-! LOOPS, SWITCHES, SMALL CONSTANTS -/
def zloop {σ α : Type} (k : (σ → Option α) → σ → Option α) : Nat → σ → Option α
  | 0, _ => none
  | n + 1, s => k (zloop k n) s
theorem zloop_Zr {σ α : Type} {enc : α → Option Value × ZH} {b0 : Nat} {Y : zY} {d pc : Nat} (lvf : σ → List (Nat × Value)) (stf : σ → List Value) (hf : σ → ZH) (k : (σ → Option α) → σ → Option α)
    (hk : ∀ self, (∀ s, Zr enc b0 Y d pc (lvf s) (stf s) (hf s) (self s)) → ∀ s, Zr enc b0 Y d pc (lvf s) (stf s) (hf s) (k self s)) : ∀ n s, Zr enc b0 Y d pc (lvf s) (stf s) (hf s) (zloop k n s) := by
  intro n
  induction n with
  | zero => intro s; exact Zr.none
  | succ n ih => intro s; exact hk _ ih s
/-- a loop whose states are known by their number -/
theorem zloop_run {σ α : Type} {k : (σ → Option α) → σ → Option α} {r : Option α} (S : Nat → σ) (m : Nat) (hs : ∀ j, j < m → ∀ self, k self (S j) = self (S (j + 1))) (he : ∀ self, k self (S m) = r) {n : Nat} (hn : m < n) : zloop k n (S 0) = r := by
  have key : ∀ i, i ≤ m → ∀ n, m - i < n → zloop k n (S i) = r := by
    intro i hi
    induction h : m - i generalizing i with
    | zero =>
      intro n hn
      obtain ⟨n, rfl⟩ : ∃ k, n = k + 1 := ⟨n - 1, by omega⟩
      have : i = m := by omega
      subst this
      exact he _
    | succ t ih =>
      intro n hn
      obtain ⟨n, rfl⟩ : ∃ k, n = k + 1 := ⟨n - 1, by omega⟩
      show k (zloop k n) (S i) = r
      rw [hs i (by omega)]
      exact ih (i + 1) (by omega) (by omega) n (by omega)
  exact key 0 (Nat.zero_le _) n (by omega)
section ZSW
variable {α : Type} {enc : α → Option Value × ZH} {b0 : Nat} {Y : zY} {d pc : Nat} {lv : List (Nat × Value)} {st : List Value} {h : ZH} {r : Option α}
theorem z_tabIn {dflt lo hi : Int} {offs : Array Int} {len : Nat} {x : Int32} {off : Int} (tgt : Nat) (hd : decode (yc Y) pc = .ok (.tableswitch dflt lo hi offs, len)) (h1 : ¬ x.toInt < lo) (h2 : ¬ hi < x.toInt) (ho : offs[(x.toInt - lo).toNat]? = some off) (ht : (pc : Int) + off = (tgt : Int)) (k : Zr enc b0 Y d tgt lv st h r) : Zr enc b0 Y d pc lv (.int x :: st) h r :=
  k.step (fun D CA p l e R s m args below meth c H locs ls n0 cells slots Q hA hc hs hl hP hS kk => lv_tableIn hA.1 hA.2.1 hd h1 h2 ho ht (kk _ hl))
theorem z_tabOut {dflt lo hi : Int} {offs : Array Int} {len : Nat} {x : Int32} (tgt : Nat) (hd : decode (yc Y) pc = .ok (.tableswitch dflt lo hi offs, len)) (h1 : x.toInt < lo ∨ hi < x.toInt) (ht : (pc : Int) + dflt = (tgt : Int)) (k : Zr enc b0 Y d tgt lv st h r) : Zr enc b0 Y d pc lv (.int x :: st) h r :=
  k.step (fun D CA p l e R s m args below meth c H locs ls n0 cells slots Q hA hc hs hl hP hS kk => lv_tableOut hA.1 hA.2.1 hd h1 ht (kk _ hl))
theorem z_lookup {dflt : Int} {ps : Array (Int × Int)} {len : Nat} {x : Int32} {off : Int} (tgt : Nat) (hd : decode (yc Y) pc = .ok (.lookupswitch dflt ps, len)) (hp : (ps.toList.zip (ps.toList.drop 1)).all (fun (a, next) => a.1 < next.1) = true) (ho : Op.lookupswitch.offset ps.toList dflt x.toInt = off) (ht : (pc : Int) + off = (tgt : Int)) (k : Zr enc b0 Y d tgt lv st h r) : Zr enc b0 Y d pc lv (.int x :: st) h r :=
  k.step (fun D CA p l e R s m args below meth c H locs ls n0 cells slots Q hA hc hs hl hP hS kk => lv_lookup hA.1 hA.2.1 hd hp ho ht (kk _ hl))
theorem z_ite {G : Prop} {hG : Decidable G} {r1 r2 : Option α} (k1 : G → Zr enc b0 Y d pc lv st h r1) (k2 : ¬ G → Zr enc b0 Y d pc lv st h r2) : Zr enc b0 Y d pc lv st h (if G then r1 else r2) := by
  by_cases g : G
  · rw [if_pos g]; exact k1 g
  · rw [if_neg g]; exact k2 g
end ZSW
theorem z_i32_eq {x : Int32} {k : Int32} (h : x.toInt = k.toInt) : x = k := Int32.toInt_inj.mp h
