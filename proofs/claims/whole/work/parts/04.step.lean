def zfnd : List zTE → Nat → Option zTE
  | [], _ => none
  | e :: r, pc => bif Nat.beq e.1 pc then some e else zfnd r pc
theorem zfnd_in : ∀ {tb : List zTE} {pc : Nat} {e : zTE}, zfnd tb pc = some e → e ∈ tb ∧ e.1 = pc
  | [], pc, e, h => by simp [zfnd] at h
  | x :: r, pc, e, h => by
    unfold zfnd at h
    cases hb : Nat.beq x.1 pc with
    | true =>
      rw [hb] at h
      simp only [cond_true, Option.some.injEq] at h
      subst h
      exact ⟨List.mem_cons_self, Nat.eq_of_beq_eq_true hb⟩
    | false =>
      rw [hb] at h
      obtain ⟨h1, h2⟩ := zfnd_in (tb := r) h
      exact ⟨List.mem_cons_of_mem _ h1, h2⟩
-- what stands on the stack, or in a local
def zI1 (st : List zAV) (f : Int32 → List zAV → Prop) : Prop := match st with | .inl x :: r => f x r | _ => False
def zI2 (st : List zAV) (f : Int32 → Int32 → List zAV → Prop) : Prop := match st with | .inl y :: .inl x :: r => f x y r | _ => False
def zL1 (st : List zAV) (f : Int64 → List zAV → Prop) : Prop := match st with | .inr (.inl x) :: r => f x r | _ => False
def zL2 (st : List zAV) (f : Int64 → Int64 → List zAV → Prop) : Prop := match st with | .inr (.inl y) :: .inr (.inl x) :: r => f x y r | _ => False
def zR1 (st : List zAV) (f : Nat → List zAV → Prop) : Prop := match st with | .inr (.inr k) :: r => f k r | _ => False
def zIR (st : List zAV) (f : Int32 → Nat → List zAV → Prop) : Prop := match st with | .inl i :: .inr (.inr k) :: r => f i k r | _ => False
def zIIR (st : List zAV) (f : Int32 → Int32 → Nat → List zAV → Prop) : Prop := match st with | .inl x :: .inl i :: .inr (.inr k) :: r => f x i k r | _ => False
def zVR (st : List zAV) (f : zAV → Nat → List zAV → Prop) : Prop := match st with | v :: .inr (.inr k) :: r => f v k r | _ => False
def zA1 (st : List zAV) (f : zAV → List zAV → Prop) : Prop := match st with | v :: r => bif zisL v then False else f v r | _ => False
def zgI (lv : zlv) (n : Nat) (f : Int32 → Prop) : Prop := match lv[n]? with | some (some (.inl x)) => f x | _ => False
def zgL (lv : zlv) (n : Nat) (f : Int64 → Prop) : Prop := match lv[n]? with | some (some (.inr (.inl x))) => f x | _ => False
def zgR (lv : zlv) (n : Nat) (f : Nat → Prop) : Prop := match lv[n]? with | some (some (.inr (.inr x))) => f x | _ => False
def zsv (o : Option zlv) (f : zlv → Prop) : Prop := match o with | some lv => f lv | none => False
theorem zI1_el {st : List zAV} {f : Int32 → List zAV → Prop} (h : zI1 st f) : ∃ x r, st = .inl x :: r ∧ f x r := by
  unfold zI1 at h; split at h
  · exact ⟨_, _, rfl, h⟩
  · exact h.elim
theorem zI2_el {st : List zAV} {f : Int32 → Int32 → List zAV → Prop} (h : zI2 st f) : ∃ x y r, st = .inl y :: .inl x :: r ∧ f x y r := by
  unfold zI2 at h; split at h
  · exact ⟨_, _, _, rfl, h⟩
  · exact h.elim
theorem zL1_el {st : List zAV} {f : Int64 → List zAV → Prop} (h : zL1 st f) : ∃ x r, st = .inr (.inl x) :: r ∧ f x r := by
  unfold zL1 at h; split at h
  · exact ⟨_, _, rfl, h⟩
  · exact h.elim
theorem zL2_el {st : List zAV} {f : Int64 → Int64 → List zAV → Prop} (h : zL2 st f) : ∃ x y r, st = .inr (.inl y) :: .inr (.inl x) :: r ∧ f x y r := by
  unfold zL2 at h; split at h
  · exact ⟨_, _, _, rfl, h⟩
  · exact h.elim
theorem zR1_el {st : List zAV} {f : Nat → List zAV → Prop} (h : zR1 st f) : ∃ k r, st = .inr (.inr k) :: r ∧ f k r := by
  unfold zR1 at h; split at h
  · exact ⟨_, _, rfl, h⟩
  · exact h.elim
theorem zIR_el {st : List zAV} {f : Int32 → Nat → List zAV → Prop} (h : zIR st f) : ∃ i k r, st = .inl i :: .inr (.inr k) :: r ∧ f i k r := by
  unfold zIR at h; split at h
  · exact ⟨_, _, _, rfl, h⟩
  · exact h.elim
theorem zIIR_el {st : List zAV} {f : Int32 → Int32 → Nat → List zAV → Prop} (h : zIIR st f) : ∃ x i k r, st = .inl x :: .inl i :: .inr (.inr k) :: r ∧ f x i k r := by
  unfold zIIR at h; split at h
  · exact ⟨_, _, _, _, rfl, h⟩
  · exact h.elim
theorem zVR_el {st : List zAV} {f : zAV → Nat → List zAV → Prop} (h : zVR st f) : ∃ v k r, st = v :: .inr (.inr k) :: r ∧ f v k r := by
  unfold zVR at h; split at h
  · exact ⟨_, _, _, rfl, h⟩
  · exact h.elim
theorem zA1_el {st : List zAV} {f : zAV → List zAV → Prop} (h : zA1 st f) : ∃ v r, st = v :: r ∧ zisL v = false ∧ f v r := by
  unfold zA1 at h; split at h
  · rename_i v r
    cases hv : zisL v with
    | true => rw [hv] at h; exact h.elim
    | false => rw [hv] at h; exact ⟨_, _, rfl, hv, h⟩
  · exact h.elim
theorem zgI_el {lv : zlv} {n : Nat} {f : Int32 → Prop} (h : zgI lv n f) : ∃ x, lv[n]? = some (some (.inl x)) ∧ f x := by
  unfold zgI at h; split at h
  · rename_i x hx; exact ⟨x, hx, h⟩
  · exact h.elim
theorem zgL_el {lv : zlv} {n : Nat} {f : Int64 → Prop} (h : zgL lv n f) : ∃ x, lv[n]? = some (some (.inr (.inl x))) ∧ f x := by
  unfold zgL at h; split at h
  · rename_i x hx; exact ⟨x, hx, h⟩
  · exact h.elim
theorem zgR_el {lv : zlv} {n : Nat} {f : Nat → Prop} (h : zgR lv n f) : ∃ x, lv[n]? = some (some (.inr (.inr x))) ∧ f x := by
  unfold zgR at h; split at h
  · rename_i x hx; exact ⟨x, hx, h⟩
  · exact h.elim
theorem zsv_el {o : Option zlv} {f : zlv → Prop} (h : zsv o f) : ∃ lv, o = some lv ∧ f lv := by
  unfold zsv at h; split at h
  · exact ⟨_, rfl, h⟩
  · exact h.elim
def zcc (c : ClassFile.Cond) (x : Int32) (A B : Prop) : Prop := match c with
  | .eq => if x = 0 then A else B
  | .ne => if x = 0 then B else A
  | .lt => if x < 0 then A else B
  | .ge => if 0 ≤ x then A else B
  | .gt => if 0 < x then A else B
  | .le => if x ≤ 0 then A else B
def zc2 (c : ClassFile.Cond) (x y : Int32) (A B : Prop) : Prop := match c with
  | .eq => if x = y then A else B
  | .ne => if x = y then B else A
  | .lt => if x < y then A else B
  | .ge => if y ≤ x then A else B
  | .gt => if y < x then A else B
  | .le => if x ≤ y then A else B
theorem zif_t {c : Prop} [Decidable c] {A B : Prop} (h : if c then A else B) (q : c) : A := by rwa [if_pos q] at h
theorem zif_f {c : Prop} [Decidable c] {A B : Prop} (h : if c then A else B) (q : ¬ c) : B := by rwa [if_neg q] at h
def zsw (x : Int32) : List (Int32 × Nat) → (Nat → Prop) → Nat → Prop
  | [], f, d => f d
  | q :: r, f, d => if x = q.1 then f q.2 else zsw x r f d
def zcut (q : Nat → Nat) : Nat → List zAV → List zAV → Option (List zAV × List zAV)
  | 0, st, acc => some (acc, st)
  | _ + 1, [], _ => none
  | n + 1, v :: st, acc => zcut q n st (v :: acc)
theorem zcut_el (q : Nat → Nat) : ∀ (n : Nat) (st acc as rest : List zAV), zcut q n st acc = some (as, rest) → ∃ bs, as = bs ++ acc ∧ st = bs.reverse ++ rest ∧ bs.length = n
  | 0, st, acc, as, rest, h => by
    simp only [zcut, Option.some.injEq, Prod.mk.injEq] at h
    exact ⟨[], by simp [h.1], by simp [h.2], rfl⟩
  | n + 1, [], acc, as, rest, h => by simp [zcut] at h
  | n + 1, v :: st, acc, as, rest, h => by
    obtain ⟨bs, h1, h2, h3⟩ := zcut_el q n st (v :: acc) as rest h
    exact ⟨bs ++ [v], by simp [h1], by simp [h2], by simp [h3]⟩
def zcats : List zAV → Nat
  | [] => 0
  | v :: r => (bif zisL v then 2 else 1) + zcats r
theorem zcats_eq (q : Nat → Nat) : ∀ (st : List zAV), ((st.map (toV q)).map fun v => v.category).sum = zcats st
  | [] => rfl
  | v :: r => by
    simp only [List.map_cons, List.sum_cons, zcats]
    rw [zcats_eq q r, cat_of]
    cases zisL v <;> rfl
def zrcv (k b : Nat) : Bool := match zlay[k]? with
  | some (.inr (ci, _)) => Nat.beq ci b
  | some _ => false
  | none => Nat.beq b 100 && Nat.ble 1000 k && Nat.blt k 1004
def zcall (G : zGT) (d : Nat) (Y : zYD) (as : List zAV) (σ : zMem) (f : List zAV → zMem → Prop) : Prop := match d with
  | 0 => False
  | d' + 1 => match Y.2.2.2.1 with
    | none => CTV G d' Y as σ (fun σ' => f [] σ')
    | some (.object _) => CTR G d' Y as σ (fun k σ' => f [.inr (.inr k)] σ')
    | some _ => CTI G d' Y as σ (fun x σ' => f [.inl x] σ')
/-- a write to an object's slot of a kind -/
def zslot (σ : zMem) (k b t : Nat) (v : zAV) (f : zMem → Prop) : Prop := match t, v with
  | 0, .inl x => ∀ σ', σ' = zwr σ k b x → f σ'
  | 1, .inl x => if x = 0 ∨ x = 1 then (∀ σ', σ' = zwr σ k b x → f σ') else False
  | 2, .inr (.inr j) => bif Nat.blt j 2147483648 then (∀ σ', σ' = zwr σ k b (Int32.ofNat j) → f σ') else False
  | _, _ => False
def zret (ret : Option FieldType) (x : Int32) (P : Prop) : Prop := match ret with
  | some .int => P
  | some .boolean => if x = 0 ∨ x = 1 then P else False
  | some .char => narrow .char (.int x) = .int x ∧ P
  | some .byte => narrow .byte (.int x) = .int x ∧ P
  | _ => False
def zdo (G : zGT) (M : zMD) (d : Nat) (Φ : zAV → zMem → Prop) (t : zTE) (lv : zlv) (st : List zAV) (σ : zMem) (K : Nat → zlv → List zAV → zMem → Prop) : Prop := match t with
  | (pc, ins, len, a, b, c, v, Y, sw) => match ins with
    | .iload n => zgI lv n fun x => K (pc + len) lv (.inl x :: st) σ
    | .iload_n n => zgI lv n.val fun x => K (pc + len) lv (.inl x :: st) σ
    | .lload n => zgL lv n fun x => K (pc + len) lv (.inr (.inl x) :: st) σ
    | .lload_n n => zgL lv n.val fun x => K (pc + len) lv (.inr (.inl x) :: st) σ
    | .aload n => zgR lv n fun x => K (pc + len) lv (.inr (.inr x) :: st) σ
    | .aload_n n => zgR lv n.val fun x => K (pc + len) lv (.inr (.inr x) :: st) σ
    | .istore n => zI1 st fun x r => zsv (zput lv n (.inl x)) fun lv' => K (pc + len) lv' r σ
    | .istore_n n => zI1 st fun x r => zsv (zput lv n.val (.inl x)) fun lv' => K (pc + len) lv' r σ
    | .lstore n => zL1 st fun x r => zsv (zputL lv n (.inr (.inl x))) fun lv' => K (pc + len) lv' r σ
    | .lstore_n n => zL1 st fun x r => zsv (zputL lv n.val (.inr (.inl x))) fun lv' => K (pc + len) lv' r σ
    | .astore n => zR1 st fun x r => zsv (zput lv n (.inr (.inr x))) fun lv' => K (pc + len) lv' r σ
    | .astore_n n => zR1 st fun x r => zsv (zput lv n.val (.inr (.inr x))) fun lv' => K (pc + len) lv' r σ
    | .iconst _ => K (pc + len) lv (.inl v :: st) σ
    | .bipush _ => K (pc + len) lv (.inl v :: st) σ
    | .sipush _ => K (pc + len) lv (.inl v :: st) σ
    | .ldc_w _ => bif Nat.beq a 0 then K (pc + len) lv (.inl v :: st) σ else K (pc + len) lv (.inr (.inr b) :: st) σ
    | .ldc _ => bif Nat.beq a 0 then K (pc + len) lv (.inl v :: st) σ else K (pc + len) lv (.inr (.inr b) :: st) σ
    | .lconst n => K (pc + len) lv (.inr (.inl (Int64.ofNat n.val)) :: st) σ
    | .iadd => zI2 st fun x y r => K (pc + len) lv (.inl (x + y) :: r) σ
    | .isub => zI2 st fun x y r => K (pc + len) lv (.inl (x - y) :: r) σ
    | .imul => zI2 st fun x y r => K (pc + len) lv (.inl (x * y) :: r) σ
    | .iand => zI2 st fun x y r => K (pc + len) lv (.inl (x &&& y) :: r) σ
    | .ior => zI2 st fun x y r => K (pc + len) lv (.inl (x ||| y) :: r) σ
    | .ixor => zI2 st fun x y r => K (pc + len) lv (.inl (x ^^^ y) :: r) σ
    | .idiv => zI2 st fun x y r => ¬ y = 0 ∧ K (pc + len) lv (.inl (x / y) :: r) σ
    | .irem => zI2 st fun x y r => ¬ y = 0 ∧ K (pc + len) lv (.inl (x - x / y * y) :: r) σ
    | .ishl => zI2 st fun x y r => K (pc + len) lv (.inl (x <<< (y &&& 31)) :: r) σ
    | .ishr => zI2 st fun x y r => K (pc + len) lv (.inl (x >>> (y &&& 31)) :: r) σ
    | .iushr => zI2 st fun x y r => K (pc + len) lv (.inl ((x.toUInt32 >>> (y.toUInt32 &&& Int32.toUInt32 31)).toInt32) :: r) σ
    | .ineg => zI1 st fun x r => K (pc + len) lv (.inl (-x) :: r) σ
    | .i2l => zI1 st fun x r => K (pc + len) lv (.inr (.inl x.toInt64) :: r) σ
    | .i2b => zI1 st fun x r => K (pc + len) lv (.inl x.toInt8.toInt32 :: r) σ
    | .i2c => zI1 st fun x r => K (pc + len) lv (.inl (x.toUInt32 % 65536).toInt32 :: r) σ
    | .l2i => zL1 st fun x r => K (pc + len) lv (.inl x.toInt32 :: r) σ
    | .ladd => zL2 st fun x y r => K (pc + len) lv (.inr (.inl (x + y)) :: r) σ
    | .lmul => zL2 st fun x y r => K (pc + len) lv (.inr (.inl (x * y)) :: r) σ
    | .ldiv => zL2 st fun x y r => ¬ y = 0 ∧ K (pc + len) lv (.inr (.inl (x / y)) :: r) σ
    | .lcmp => zL2 st fun x y r => K (pc + len) lv (.inl (lg_cmp x y) :: r) σ
    | .iinc n _ => zgI lv n fun x => zsv (zput lv n (.inl (x + v))) fun lv' => K (pc + len) lv' st σ
    | .goto _ => K a lv st σ
    | .ifCond cd _ => zI1 st fun x r => zcc cd x (K a lv r σ) (K (pc + len) lv r σ)
    | .if_icmp cd _ => zI2 st fun x y r => zc2 cd x y (K a lv r σ) (K (pc + len) lv r σ)
    | .tableswitch _ _ _ _ => zI1 st fun x r => zsw x sw (fun t => K t lv r σ) a
    | .lookupswitch _ _ => zI1 st fun x r => zsw x sw (fun t => K t lv r σ) a
    | .dup => zA1 st fun v r => K (pc + len) lv (v :: v :: r) σ
    | .dup2 => zA1 st fun v1 r1 => zA1 r1 fun v2 r => K (pc + len) lv (v1 :: v2 :: v1 :: v2 :: r) σ
    | .pop => zA1 st fun _ r => K (pc + len) lv r σ
    | .getfield _ => zR1 st fun k r => match zlay[k]? with
      | some (.inr (ci, ts)) => bif Nat.beq ci a then (match ts[b]? with | some t => K (pc + len) lv (slotA (σ k b) t :: r) σ | none => False) else False
      | some _ => False
      | none => bif Nat.ble 1000 k && Nat.blt k 1004 then (bif Nat.beq a 100 then K (pc + len) lv (.inr (.inr (k + 100)) :: r) σ else bif Nat.beq a 101 then K (pc + len) lv (.inl 0 :: r) σ else False) else False
    | .putfield _ => zVR st fun v k r => match zlay[k]? with
      | some (.inr (ci, ts)) => bif Nat.beq ci a then (match ts[b]? with | some t => zslot σ k b t v (fun σ' => K (pc + len) lv r σ') | none => False) else False
      | _ => False
    | .iaload => zIR st fun i k r => match zlay[k]? with
      | some (.inl (false, n)) => vp_in i n ∧ K (pc + len) lv (.inl (σ k i.toNatClampNeg) :: r) σ
      | some _ => False
      | none => bif Nat.beq k 2000 then vp_in i (gL G) ∧ K (pc + len) lv (.inl (gX G i.toNatClampNeg) :: r) σ else False
    | .baload => zIR st fun i k r => match zlay[k]? with
      | some (.inl (true, n)) => vp_in i n ∧ K (pc + len) lv (.inl (σ k i.toNatClampNeg) :: r) σ
      | some _ => False
      | none => bif Nat.ble 1100 k && Nat.blt k 1104 then vp_in i (ztl.getD (k - 1100) 0) ∧ K (pc + len) lv (.inl ((ztx.getD (k - 1100) []).getD i.toNatClampNeg 0) :: r) σ else False
    | .iastore => zIIR st fun x i k r => match zlay[k]? with
      | some (.inl (false, n)) => vp_in i n ∧ ∀ σ', σ' = zwr σ k i.toNatClampNeg x → K (pc + len) lv r σ'
      | _ => False
    | .bastore => zIIR st fun x i k r => match zlay[k]? with
      | some (.inl (true, n)) => vp_in i n ∧ ∀ σ', σ' = zwr σ k i.toNatClampNeg x.toInt8.toInt32 → K (pc + len) lv r σ'
      | _ => False
    | .arraylength => zR1 st fun k r => match zlay[k]? with
      | some (.inl (_, n)) => K (pc + len) lv (.inl (Int32.ofNat n) :: r) σ
      | some _ => False
      | none => bif Nat.beq k 2000 then K (pc + len) lv (.inl (Int32.ofNat (gL G)) :: r) σ else bif Nat.ble 1100 k && Nat.blt k 1104 then K (pc + len) lv (.inl (Int32.ofNat (ztl.getD (k - 1100) 0)) :: r) σ else False
    | .getstatic _ => match stF[a]? with | some r => K (pc + len) lv (r.2.2.2 :: st) σ | none => False
    | .invokevirtual _ => match zcut (gq G) Y.2.2.2.2.1 st [] with
      | some (as, .inr (.inr k) :: rest) => bif zrcv k b && Nat.ble (zcats rest) 8 then zcall G d Y (.inr (.inr k) :: as) σ (fun w σ' => K (pc + len) lv (w ++ rest) σ') else False
      | _ => False
    | .invokestatic _ => bif Nat.beq b 2 then (match d with
        | 0 => False
        | _ + 1 => zI2 st fun x y r => bif Nat.ble (zcats r) 8 then K (pc + len) lv (.inl (if y < x then y else x) :: r) σ else False)
      else match zcut (gq G) Y.2.2.2.2.1 st [] with
      | some (as, rest) => bif Nat.ble (zcats rest) 8 then zcall G d Y as σ (fun w σ' => K (pc + len) lv (w ++ rest) σ') else False
      | none => False
    | .ireturn => zI1 st fun x r => match r with | [] => zret M.1.2.2.2.1 x (Φ (.inl x) σ) | _ => False
    | .areturn => zR1 st fun k r => match r, M.1.2.2.2.1 with | [], some (.object _) => Φ (.inr (.inr k)) σ | _, _ => False
    | .return_ => match M.1.2.2.2.1 with | none => (match st with | [] => Φ (.inl 0) σ | _ => False) | some _ => False
    | _ => False
def zstep (G : zGT) (M : zMD) (d : Nat) (Φ : zAV → zMem → Prop) (pc : Nat) (lv : zlv) (st : List zAV) (σ : zMem) (K : Nat → zlv → List zAV → zMem → Prop) : Prop := match zfnd M.2 pc with
  | none => False
  | some t => zdo G M d Φ t lv st σ K
def zsp : List (Nat × List Bool) → Nat → Option (List Bool)
  | [], _ => none
  | q :: r, pc => bif Nat.beq q.1 pc then some q.2 else zsp r pc
/-- what is to be shown of the walk from pc to the next stops, or to the method's ends -/
def ZP (G : zGT) (M : zMD) (d : Nat) (Φ : zAV → zMem → Prop) (sp : List (Nat × List Bool)) : Nat → Nat → zlv → List zAV → zMem → Prop
  | 0, pc, lv, st, σ => WJ G M d Φ pc lv st σ
  | n + 1, pc, lv, st, σ => zstep G M d Φ pc lv st σ (fun pc' lv' st' σ' => match zsp sp pc' with
    | some bs => WJ G M d Φ pc' (zmk bs lv') st' σ'
    | none => ZP G M d Φ sp n pc' lv' st' σ')
-- what a program decides of a table
def inT (i : Nat) (w : Jvm.Cond) : Bool := decide (lw_tbl[i]? = some w) && goodWord w
theorem inT_in {i : Nat} {w : Jvm.Cond} (h : inT i w = true) : w ∈ AW := by
  unfold inT at h
  rw [Bool.and_eq_true, decide_eq_true_eq] at h
  exact AW_in h.1 h.2
def okY (Y : zYD) (i2 i3 : Jvm.Cond) (v : Bool) : Bool :=
  inT (Y.2.2.2.2.2.getD 0 0) (.code Y.1 Y.2.1 Y.2.2.1 Y.2.2.2.1) && inT (Y.2.2.2.2.2.getD 1 0) (.initialized Y.1.cls) && inT (Y.2.2.2.2.2.getD 2 0) i2 && (!v || inT (Y.2.2.2.2.2.getD 3 0) i3) &&
  decide (Y.1.cls ≠ "java/lang/invoke/MethodHandle") && decide (Y.1.cls ≠ "java/lang/invoke/VarHandle") && decide ((parseMethodDescriptor Y.1.desc).map (fun d => d.parameters.length) = some Y.2.2.2.2.1) && Nat.ble Y.2.2.1 20
def okSw (pc : Nat) : List (Int × Int) → List (Int32 × Nat) → Bool
  | [], [] => true
  | q :: r, z :: s => decide (z.1.toInt = q.1) && decide ((pc : Int) + q.2 = (z.2 : Int)) && okSw pc r s
  | _, _ => false
def okTs (pc : Nat) : Int → List Int → List (Int32 × Nat) → Bool
  | _, [], [] => true
  | lo, o :: r, z :: s => decide (z.1.toInt = lo) && decide ((pc : Int) + o = (z.2 : Int)) && okTs pc (lo + 1) r s
  | _, _, _ => false
def okI (own : String) (pc : Nat) (ins : Instr) (len a b c : Nat) (v : Int32) (Y : zYD) (sw : List (Int32 × Nat)) : Bool := match ins with
  | .iload _ | .lload _ | .aload _ | .istore _ | .lstore _ | .astore _ => Nat.beq len 2
  | .iconst n => Nat.beq len 1 && decide (Int32.ofInt n = v)
  | .bipush n => Nat.beq len 2 && decide ((Int8.ofInt n).toInt32 = v)
  | .sipush n => Nat.beq len 3 && decide ((Int16.ofInt n).toInt32 = v)
  | .ldc_w i => Nat.beq len 3 && (bif Nat.beq a 0 then inT c (.constant own i v) else (match zsr[c]? with | some r => decide (r.1 = own) && Nat.beq r.2.1 i && Nat.beq (1000 + r.2.2.2) b | none => false))
  | .ldc i => Nat.beq len 2 && (bif Nat.beq a 0 then inT c (.constant own i v) else (match zsr[c]? with | some r => decide (r.1 = own) && Nat.beq r.2.1 i && Nat.beq (1000 + r.2.2.2) b | none => false))
  | .iinc _ n => Nat.beq len 3 && decide (Int32.ofInt n = v)
  | .goto o => Nat.beq len 3 && decide ((pc : Int) + o = (a : Int))
  | .ifCond _ o => Nat.beq len 3 && decide ((pc : Int) + o = (a : Int))
  | .if_icmp _ o => Nat.beq len 3 && decide ((pc : Int) + o = (a : Int))
  | .tableswitch df lo hi offs => decide ((pc : Int) + df = (a : Int)) && okTs pc lo offs.toList sw && decide (hi - lo + 1 = (offs.size : Int))
  | .lookupswitch df ps => decide ((pc : Int) + df = (a : Int)) && okSw pc ps.toList sw && (ps.toList.zip (ps.toList.drop 1)).all (fun (a, next) => a.1 < next.1)
  | .getfield i => Nat.beq len 3 && (match vwCl[a]? with
    | some q => Nat.blt b q.2.2 && inT c (.fieldLink own i (q.2.1 b).1 (q.2.1 b).2.1 (q.2.1 b).2.2.1)
    | none => decide (own = "java/lang/String") && (bif Nat.beq a 100 then inT c (.fieldLink own i "java/lang/String" "value" "[B") else bif Nat.beq a 101 then inT c (.fieldLink own i "java/lang/String" "coder" "B") else false))
  | .putfield i => Nat.beq len 3 && (match vwCl[a]? with
    | some q => Nat.blt b q.2.2 && inT c (.fieldLink own i (q.2.1 b).1 (q.2.1 b).2.1 (q.2.1 b).2.2.1) && !(q.2.1 b).2.2.2
    | none => false)
  | .getstatic i => Nat.beq len 3 && (match stF[a]? with | some r => inT c (.fieldLink own i r.1 r.2.1 r.2.2.1) | none => false)
  | .invokevirtual i => Nat.beq len 3 && inT a (.methodLink own i Y.1) && okY Y (.instanceMethod Y.1) (.selects Y.1.cls Y.1 Y.1) true && (match vwCl[b]? with | some q => decide (q.1 = Y.1.cls) | none => Nat.beq b 100 && decide (Y.1.cls = "java/lang/String"))
  | .invokestatic i => Nat.beq len 3 && (bif Nat.beq b 2 then inT a (.methodLink own i Lib.Math.min.name) && inT (Y.2.2.2.2.2.getD 2 0) (.static Lib.Math.min.name) && inT (Y.2.2.2.2.2.getD 1 0) (.initialized "java/lang/Math") && inT (Y.2.2.2.2.2.getD 0 0) (.code Lib.Math.min.name Lib.Math.min.code 2 (some .int))
    else okY Y (.static Y.1) (.static Y.1) false && (bif Nat.beq b 0 then inT a (.methodLink own i Y.1) else (match znw[c]? with | some r => decide (r.1 = own) && Nat.beq r.2.1 i && decide (r.2.2.1 = Y.1) | none => false)))
  | _ => Nat.beq len 1
def okE (own : String) (cc : ByteArray) (t : zTE) : Bool := match t with
  | (pc, ins, len, a, b, c, v, Y, sw) => decide (decode cc pc = .ok (ins, len)) && okI own pc ins len a b c v Y sw
def okT (own : String) (cc : ByteArray) (tb : List zTE) : Bool := tb.all (okE own cc)
