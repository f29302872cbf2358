/-! THE SMALL MACHINE: a pure stepper over a list of cells (a reference is a place in the list; a string constant j is the value .retAddr j). Its steps are the real machine's (part 05); all else is proved of it alone. -/
abbrev MH : Type := List va_E
abbrev ML : Type := List (Option Value)
abbrev MR : Type := Option (Option Value × MH)
abbrev MF : Type := Nat → Nat → ML → List Value → MH → MR
-- reading and writing the cells
def m_fi (h : MH) (a c k : Nat) : Option Int32 := match h[a]? with
  | some (.inr o) => (match o with
    | (c', fs) => if c' = c then (match fs[k]? with
      | some (.int x) => some x
      | _ => none) else none)
  | _ => none
def m_fr (h : MH) (a c k : Nat) : Option Nat := match h[a]? with
  | some (.inr o) => (match o with
    | (c', fs) => if c' = c then (match fs[k]? with
      | some (.ref x) => some x
      | _ => none) else none)
  | _ => none
def m_pf (h : MH) (a c k : Nat) (v : Value) : Option MH := match h[a]? with
  | some (.inr o) => (match o with
    | (c', fs) => if c' = c then (if k < fs.length then some (h.set a (.inr (c, fs.set k v))) else none) else none)
  | _ => none
def m_cls (h : MH) (a : Nat) : Option Nat := match h[a]? with
  | some (.inr o) => some o.1
  | _ => none
def m_ai (h : MH) (a t : Nat) (i : Int32) : Option Int32 := match h[a]? with
  | some (.inl (t', n, .inl f)) => if t' = t then (if i < 0 ∨ n ≤ i.toNatClampNeg then none else some (f i.toNatClampNeg)) else none
  | _ => none
def m_ar (h : MH) (a : Nat) (i : Int32) : Option Nat := match h[a]? with
  | some (.inl (t', n, .inr (.inr (.inr (.inr f))))) => if t' = 2 then (if i < 0 ∨ n ≤ i.toNatClampNeg then none else f i.toNatClampNeg) else none
  | _ => none
def m_pi (h : MH) (a t : Nat) (i x : Int32) : Option MH := match h[a]? with
  | some (.inl (t', n, .inl f)) => if t' = t then (if i < 0 ∨ n ≤ i.toNatClampNeg then none else some (h.set a (.inl (t, n, .inl (upd f i.toNatClampNeg x))))) else none
  | _ => none
def m_pr (h : MH) (a : Nat) (i : Int32) (x : Nat) : Option MH := match h[a]? with
  | some (.inl (t', n, .inr (.inr (.inr (.inr f))))) => if t' = 2 then (if i < 0 ∨ n ≤ i.toNatClampNeg then none else (if m_cls h x = some 1 then some (h.set a (.inl (2, n, .inr (.inr (.inr (.inr (va_up f i.toNatClampNeg (some x)))))))) else none)) else none
  | _ => none
def m_al (h : MH) (a : Nat) : Option Int32 := match h[a]? with
  | some (.inl (t, z)) => if t < 3 then some (Int32.ofNat z.1) else none
  | _ => none
-- locals
def m_ld (ls : ML) (i : Nat) : Option Value := match ls[i]? with
  | some (some v) => some v
  | _ => none
def m_kill (ls : ML) : Nat → ML
  | 0 => ls
  | j + 1 => (match ls[j]? with
    | some (some v) => bif Nat.beq v.category 2 then ls.set j none else ls
    | _ => ls)
def m_sto (ls : ML) (i : Nat) (v : Value) : Option ML := if i < ls.length then some ((m_kill ls i).set i (some v)) else none
def m_sto2 (ls : ML) (i : Nat) (v : Value) : Option ML := if i + 1 < ls.length then some (((m_kill ls i).set i (some v)).set (i + 1) none) else none
-- what needs no cell and can't fail by a number
def m_bin (f : Int32 → Int32 → Int32) (ls : ML) (st : List Value) : Option (ML × List Value) := match st with
  | .int y :: .int x :: r => some (ls, .int (f x y) :: r)
  | _ => none
def m_binL (f : Int64 → Int64 → Int64) (ls : ML) (st : List Value) : Option (ML × List Value) := match st with
  | .long y :: .long x :: r => some (ls, .long (f x y) :: r)
  | _ => none
def m_ldi (ls : ML) (i : Nat) (st : List Value) : Option (ML × List Value) := match m_ld ls i with
  | some (.int x) => some (ls, .int x :: st)
  | _ => none
def m_lda (ls : ML) (i : Nat) (st : List Value) : Option (ML × List Value) := match m_ld ls i with
  | some (.ref x) => some (ls, .ref x :: st)
  | _ => none
def m_ldl (ls : ML) (i : Nat) (st : List Value) : Option (ML × List Value) := match m_ld ls i with
  | some (.long x) => some (ls, .long x :: st)
  | _ => none
def m_sti (ls : ML) (i : Nat) (st : List Value) : Option (ML × List Value) := match st with
  | .int x :: r => (match m_sto ls i (.int x) with
    | some l => some (l, r)
    | none => none)
  | _ => none
def m_sta (ls : ML) (i : Nat) (st : List Value) : Option (ML × List Value) := match st with
  | .ref x :: r => (match m_sto ls i (.ref x) with
    | some l => some (l, r)
    | none => none)
  | _ => none
def m_stl (ls : ML) (i : Nat) (st : List Value) : Option (ML × List Value) := match st with
  | .long x :: r => (match m_sto2 ls i (.long x) with
    | some l => some (l, r)
    | none => none)
  | _ => none
def m_inc (ls : ML) (i : Nat) (c : Int32) (st : List Value) : Option (ML × List Value) := match m_ld ls i with
  | some (.int x) => (match m_sto ls i (.int (x + c)) with
    | some l => some (l, st)
    | none => none)
  | _ => none
def m_a0 (a : List Nat) : Nat := match a with
  | i :: _ => i
  | [] => 0
def m_cat (v : Value) : Bool := match v with
  | .int _ => true
  | .ref _ => true
  | .retAddr _ => true
  | _ => false
def m_dup (ls : ML) (st : List Value) : Option (ML × List Value) := match st with
  | v :: r => if m_cat v = true then some (ls, v :: v :: r) else none
  | _ => none
def m_dup2 (ls : ML) (st : List Value) : Option (ML × List Value) := match st with
  | v :: w :: r => if m_cat v = true then (if m_cat w = true then some (ls, v :: w :: v :: w :: r) else none) else none
  | _ => none
def m_pop (ls : ML) (st : List Value) : Option (ML × List Value) := match st with
  | v :: r => if m_cat v = true then some (ls, r) else none
  | _ => none
def m_i2l (ls : ML) (st : List Value) : Option (ML × List Value) := match st with
  | .int x :: r => some (ls, .long x.toInt64 :: r)
  | _ => none
def m_l2i (ls : ML) (st : List Value) : Option (ML × List Value) := match st with
  | .long x :: r => some (ls, .int x.toInt32 :: r)
  | _ => none
def m_i2c (ls : ML) (st : List Value) : Option (ML × List Value) := match st with
  | .int x :: r => some (ls, .int (x.toUInt32 % 65536).toInt32 :: r)
  | _ => none
def m_pure (i : Instr) (a : List Nat) (c : Int32) (ls : ML) (st : List Value) : Option (ML × List Value) := match i with
  | .iconst _ => some (ls, .int c :: st)
  | .bipush _ => some (ls, .int c :: st)
  | .sipush _ => some (ls, .int c :: st)
  | .lconst _ => some (ls, .long (Int64.ofNat (m_a0 a)) :: st)
  | .ldc2_w _ => some (ls, .long (Int64.ofNat (m_a0 a)) :: st)
  | .ldc _ => some (ls, .retAddr (m_a0 a) :: st)
  | .ldc_w _ => some (ls, .retAddr (m_a0 a) :: st)
  | .iload_n _ => m_ldi ls (m_a0 a) st
  | .iload _ => m_ldi ls (m_a0 a) st
  | .aload_n _ => m_lda ls (m_a0 a) st
  | .aload _ => m_lda ls (m_a0 a) st
  | .lload_n _ => m_ldl ls (m_a0 a) st
  | .lload _ => m_ldl ls (m_a0 a) st
  | .istore_n _ => m_sti ls (m_a0 a) st
  | .istore _ => m_sti ls (m_a0 a) st
  | .astore_n _ => m_sta ls (m_a0 a) st
  | .astore _ => m_sta ls (m_a0 a) st
  | .lstore_n _ => m_stl ls (m_a0 a) st
  | .lstore _ => m_stl ls (m_a0 a) st
  | .iinc _ _ => m_inc ls (m_a0 a) c st
  | .iadd => m_bin (fun x y => x + y) ls st
  | .isub => m_bin (fun x y => x - y) ls st
  | .imul => m_bin (fun x y => x * y) ls st
  | .iand => m_bin (fun x y => x &&& y) ls st
  | .ior => m_bin (fun x y => x ||| y) ls st
  | .ixor => m_bin (fun x y => x ^^^ y) ls st
  | .ishl => m_bin (fun x y => x <<< (y &&& 31)) ls st
  | .ishr => m_bin (fun x y => x >>> (y &&& 31)) ls st
  | .ladd => m_binL (fun x y => x + y) ls st
  | .lmul => m_binL (fun x y => x * y) ls st
  | .dup => m_dup ls st
  | .dup2 => m_dup2 ls st
  | .pop => m_pop ls st
  | .i2l => m_i2l ls st
  | .l2i => m_l2i ls st
  | .i2c => m_i2c ls st
  | _ => none
-- branches
def m_br (cd : ClassFile.Cond) (x y : Int32) (A B : MR) : MR := match cd with
  | .eq => if x = y then A else B
  | .ne => if x = y then B else A
  | .lt => if x < y then A else B
  | .ge => if y ≤ x then A else B
  | .gt => if y < x then A else B
  | .le => if x ≤ y then A else B
def m_sw (x : Int32) (d : Nat) (f : Nat → MR) : List Nat → MR
  | v :: t :: r => if x = nI v then f t else m_sw x d f r
  | _ => f d
-- calls
def m_args : Nat → List Value → List Value → Option (List Value × List Value)
  | 0, acc, st => some (acc, st)
  | n + 1, acc, v :: st => m_args n (v :: acc) st
  | _ + 1, _, [] => none
def m_ent (n : Nat) (as : List Value) : ML := as.map some ++ List.replicate (n - as.length) none
/-- a string constant's text -/
def m_txt (j : Nat) : String := bif Nat.beq j 0 then "rynpybn;s2,5,1;h6;w0,0,1,3;w1,1,2,4;w2,2,3,2;w3,0,3,6;w0,3,4,5;w1,4,5,2;w3,5,0,9;a4,0;a3,1;a5,2;" else "ynpb"
/-- its letters, as numbers -/
def m_chs (j : Nat) : List Nat := bif Nat.beq j 0 then [114, 121, 110, 112, 121, 98, 110, 59, 115, 50, 44, 53, 44, 49, 59, 104, 54, 59, 119, 48, 44, 48, 44, 49, 44, 51, 59, 119, 49, 44, 49, 44, 50, 44, 52, 59, 119, 50, 44, 50, 44, 51, 44, 50, 59, 119, 51, 44, 48, 44, 51, 44, 54, 59, 119, 48, 44, 51, 44, 52, 44, 53, 59, 119, 49, 44, 52, 44, 53, 44, 50, 59, 119, 51, 44, 53, 44, 48, 44, 57, 59, 97, 52, 44, 48, 59, 97, 51, 44, 49, 59, 97, 53, 44, 50, 59] else [121, 110, 112, 98]
def m_ix (c : Int32) : List Nat → Nat → Int32
  | [], _ => -1
  | b :: l, k => if c = nI b then nI k else m_ix c l (k + 1)
/-- length, charAt, indexOf of a string constant -/
def m_str (q j : Nat) (as : List Value) : Option Int32 := bif Nat.blt j 2 then (match q with
  | 0 => some (nI (m_chs j).length)
  | 1 => (match as with
    | [.int i] => if i < 0 ∨ (m_chs j).length ≤ i.toNatClampNeg then none else some (nI ((m_chs j).getD i.toNatClampNeg 0))
    | _ => none)
  | 2 => (match as with
    | [.int c] => some (m_ix c (m_chs j) 0)
    | _ => none)
  | _ => none) else none
/-- what lies below a call's arguments is little, and the arguments are no longs -/
def m_okr (r : List Value) : Bool := match r with
  | [] => true
  | [_] => true
  | [_, _] => true
  | [_, _, _] => true
  | [_, _, _, _] => true
  | _ => false
def m_cats : List Value → Bool
  | [] => true
  | v :: r => m_cat v && m_cats r
def m_okc (as r : List Value) : Bool := m_okr r && m_cats as
def m_call (e : MF) (z y k : Nat) (as : List Value) (ls : ML) (r : List Value) (h : MH) : MR := (e z 0 (m_ent (m_maxL z) as) [] h).bind fun q => e y k ls (q.1.toList ++ r) q.2
def m_def (c : Nat) : List Value := match c with
  | 0 => [.null, .null, .null, .null, .null, .null, .null, .int 0, .int 0, .int 0, .int 0, .int 0, .int 0, .int 0]
  | 1 => [.null, .null, .int 0, .int 0, .int 0, .int 0]
  | 2 => [.null, .null]
  | 3 => [.null, .null, .int 0]
  | 4 => [.null, .int 0, .int 0]
  | 5 => [.null, .null, .int 0]
  | 6 => [.null, .int 0]
  | 7 => [.null, .null, .null, .null, .null, .null, .null, .null, .null, .null, .null]
  | 8 => [.int 0, .null, .int 0, .int 0, .int 0, .int 0, .int 0, .null, .int 0, .null, .null, .int 0, .null, .int 0, .null, .int 0, .null, .null, .int 0, .int 0, .null, .int 0, .int 0, .null, .int 0, .int 0, .int 0, .int 0, .int 0, .null, .int 0, .null, .null, .null, .null, .null]
  | _ => []
/-- one instruction, by its shape; e: the rest of the run -/
def m_step (e : MF) (y k : Nat) (ls : ML) (st : List Value) (h : MH) : MR := match m_code y k with
  | none => none
  | some (_, i, _, a, c) => (match i with
    | .getfield _ => (match st, a with
      | .ref o :: r, [ci, f, t] => bif Nat.beq t 2 then (m_fr h o ci f).bind fun x => e y (k + 1) ls (.ref x :: r) h else (m_fi h o ci f).bind fun x => e y (k + 1) ls (.int x :: r) h
      | _, _ => none)
    | .putfield _ => (match st, a with
      | .int x :: .ref o :: r, [ci, f, t] => bif Nat.beq t 0 then (m_pf h o ci f (.int x)).bind fun h' => e y (k + 1) ls r h' else (bif Nat.beq t 1 then (if x = nI 0 ∨ x = nI 1 then (m_pf h o ci f (.int x)).bind fun h' => e y (k + 1) ls r h' else none) else none)
      | .ref x :: .ref o :: r, [ci, f, t] => bif Nat.beq t 2 then (m_pf h o ci f (.ref x)).bind fun h' => e y (k + 1) ls r h' else none
      | _, _ => none)
    | .iaload => (match st with
      | .int j :: .ref o :: r => (m_ai h o 0 j).bind fun x => e y (k + 1) ls (.int x :: r) h
      | _ => none)
    | .caload => (match st with
      | .int j :: .ref o :: r => (m_ai h o 1 j).bind fun x => e y (k + 1) ls (.int x :: r) h
      | _ => none)
    | .aaload => (match st with
      | .int j :: .ref o :: r => (m_ar h o j).bind fun x => e y (k + 1) ls (.ref x :: r) h
      | _ => none)
    | .iastore => (match st with
      | .int x :: .int j :: .ref o :: r => (m_pi h o 0 j x).bind fun h' => e y (k + 1) ls r h'
      | _ => none)
    | .castore => (match st with
      | .int x :: .int j :: .ref o :: r => (m_pi h o 1 j (vp_nar .char x)).bind fun h' => e y (k + 1) ls r h'
      | _ => none)
    | .aastore => (match st with
      | .ref x :: .int j :: .ref o :: r => (m_pr h o j x).bind fun h' => e y (k + 1) ls r h'
      | _ => none)
    | .arraylength => (match st with
      | .ref o :: r => (m_al h o).bind fun x => e y (k + 1) ls (.int x :: r) h
      | _ => none)
    | .idiv => (match st with
      | .int y' :: .int x :: r => if y' = nI 0 then none else e y (k + 1) ls (.int (x / y') :: r) h
      | _ => none)
    | .irem => (match st with
      | .int y' :: .int x :: r => if y' = nI 0 then none else e y (k + 1) ls (.int (x - x / y' * y') :: r) h
      | _ => none)
    | .lrem => (match st with
      | .long y' :: .long x :: r => if y' = 0 then none else e y (k + 1) ls (.long (x - x / y' * y') :: r) h
      | _ => none)
    | .ifCond cd _ => (match st with
      | .int x :: r => m_br cd x (nI 0) (e y (m_a0 a) ls r h) (e y (k + 1) ls r h)
      | _ => none)
    | .if_icmp cd _ => (match st with
      | .int y' :: .int x :: r => m_br cd x y' (e y (m_a0 a) ls r h) (e y (k + 1) ls r h)
      | _ => none)
    | .goto _ => e y (m_a0 a) ls st h
    | .tableswitch _ _ _ _ => (match st with
      | .int x :: r => m_sw x (m_a0 a) (fun t => e y t ls r h) a.tail
      | _ => none)
    | .lookupswitch _ _ => (match st with
      | .int x :: r => m_sw x (m_a0 a) (fun t => e y t ls r h) a.tail
      | _ => none)
    | .invokevirtual _ => (match a with
      | [z, n] => (match m_args n [] st with
        | some (.ref o :: as, r) => bif Nat.blt z 900 then (bif m_okc as r then (if m_cls h o = some (m_rc z) then m_call e z y (k + 1) (.ref o :: as) ls r h else none) else none) else none
        | some (.retAddr j :: as, r) => bif Nat.blt 999 z then (bif m_okc as r then (m_str (z - 1000) j as).bind fun x => e y (k + 1) ls (.int x :: r) h else none) else none
        | _ => none)
      | _ => none)
    | .invokestatic _ => (match a with
      | [z, n] => (match m_args n [] st with
        | some (as, r) => bif m_okc as r then m_call e z y (k + 1) as ls r h else none
        | none => none)
      | _ => none)
    | .invokespecial _ => (match a with
      | [_] => (match st with
        | .ref _ :: r => bif m_okr r then e y (k + 1) ls r h else none
        | _ => none)
      | [z, n] => (match m_args n [] st with
        | some (.ref o :: as, r) => bif m_okc as r then m_call e z y (k + 1) (.ref o :: as) ls r h else none
        | _ => none)
      | _ => none)
    | .return_ => (match st with
      | [] => some (none, h)
      | _ => none)
    | .ireturn => (match st with
      | [.int x] => bif Nat.beq (m_rt y) 0 then some (some (.int x), h) else (bif Nat.beq (m_rt y) 1 then (if x = nI 0 ∨ x = nI 1 then some (some (.int x), h) else none) else (if vp_nar .char x = x then some (some (.int x), h) else none))
      | _ => none)
    | .areturn => (match st with
      | [.ref x] => some (some (.ref x), h)
      | _ => none)
    | .new _ => e y (k + 1) ls (.ref h.length :: st) (h ++ [.inr (m_a0 a, m_def (m_a0 a))])
    | .newarray _ => (match st with
      | .int n :: r => if n < 0 ∨ 100000 < n.toNatClampNeg then none else e y (k + 1) ls (.ref h.length :: r) (h ++ [.inl (m_a0 a, n.toNatClampNeg, .inl fun _ => 0)])
      | _ => none)
    | .anewarray _ => (match st with
      | .int n :: r => if n < 0 ∨ 100000 < n.toNatClampNeg then none else e y (k + 1) ls (.ref h.length :: r) (h ++ [.inl (2, n.toNatClampNeg, .inr (.inr (.inr (.inr fun _ => none))))])
      | _ => none)
    | i => (match m_pure i a c ls st with
      | some (l, s) => e y (k + 1) l s h
      | none => none))
/-- how much room the cells take -/
def m_csz (e : va_E) : Nat := match e with
  | .inl x => x.2.1
  | .inr o => (m_def o.1).length
def m_sz (h : MH) : Nat := (h.map m_csz).sum
def m_run : Nat → MF
  | 0 => fun _ _ _ _ _ => none
  | n + 1 => m_step (m_run n)
