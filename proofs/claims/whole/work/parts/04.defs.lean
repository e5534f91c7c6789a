def kc (n : Int) : Int32 := match n with
  | .ofNat k => nI k
  | .negSucc k => -(nI (k + 1))
def wsA : List Jvm.Cond := lw_tbl.filter goodWord
def isNest : Jvm.Cond → Bool
  | .fieldLinkNest .. => true
  | .methodLinkNest .. => true
  | _ => false
def wsN : List Jvm.Cond := lw_tbl.filter isNest
theorem inA {i : Nat} {w : Jvm.Cond} (h : lw_tbl[i]? = some w) (hg : goodWord w = true) : w ∈ wsA := List.mem_filter.mpr ⟨List.mem_of_getElem? h, hg⟩
theorem inN {i : Nat} {w : Jvm.Cond} (h : lw_tbl[i]? = some w) (hg : isNest w = true) : w ∈ wsN := List.mem_filter.mpr ⟨List.mem_of_getElem? h, hg⟩
theorem wsA_good {w : Jvm.Cond} (h : w ∈ wsA) : (w.onTables && w.keeps) = true ∨ ∃ ty, w = .arrayClass ty := good_of_word (List.mem_filter.mp h).2
theorem wsN_two {w : Jvm.Cond} (h : w ∈ wsN) : (∃ a i b n d h, w = .fieldLinkNest a i b n d h) ∨ ∃ a i x h, w = .methodLinkNest a i x h := by
  have h2 := (List.mem_filter.mp h).2
  unfold isNest at h2
  split at h2
  · exact Or.inl ⟨_, _, _, _, _, _, rfl⟩
  · exact Or.inr ⟨_, _, _, _, rfl⟩
  · cases h2
def tk (ci k : Nat) : Nat := match tyF ci k with
  | .int => 0
  | .boolean => 1
  | .object _ => 2
  | .array _ => 2
  | _ => 3
def nf (ci : Nat) : Nat := match cls_[ci]? with
  | some q => q.2.2
  | none => 0
def il : Jvm.ClassFile.Instr → Nat
  | .iconst _ | .iload_n _ | .aload_n _ | .istore_n _ | .astore_n _ | .iadd | .isub | .imul | .iand | .ior | .ishl | .dup | .iaload | .iastore | .baload | .bastore | .aaload | .aastore | .arraylength | .ireturn | .return_ => 1
  | .bipush _ | .iload _ | .aload _ | .istore _ | .astore _ | .newarray _ => 2
  | _ => 3
def okF (y ix : Nat) (inf : List Nat) : Bool := match inf with
  | [j, ci, f, rf] => (match flT[j]? with
    | some (o, ix', ci', f', _, _) => Nat.beq o (mO y) && Nat.beq ix' ix && Nat.beq ci' ci && Nat.beq f' f && Nat.beq rf (tk ci f)
    | none => false)
  | _ => false
def fin (ci f : Nat) : Bool := match cls_[ci]? with
  | some q => (q.2.1 f).2.2.2
  | none => false
def nsF (j : Nat) : Nat := match flT[j]? with
  | some (_, _, _, _, ns, _) => ns
  | none => 9
def okW (y : Nat) (inf : List Nat) : Bool := match inf with
  | [j, ci, f, _] => !fin ci f || (Nat.beq (mK y) 1 && Nat.beq (mO y) ci && Nat.beq (nsF j) 0)
  | _ => false
def okL (y ix : Nat) (inf : List Nat) : Bool := match inf with
  | [j, ci] => (match clT[j]? with
    | some (o, ix', ci', _) => Nat.beq o (mO y) && Nat.beq ix' ix && Nat.beq ci' ci
    | none => false)
  | _ => false
def okT (y pc : Nat) (off : Int) (t : Nat) : Bool := match (tc y)[t]? with
  | some e => decide ((pc : Int) + off = (e.1 : Int))
  | none => false
def okC (y ix q0 : Nat) (inf : List Nat) : Bool := match inf with
  | [j, c, n, al, rt, mx, q, ci] => (match mlT[j]? with
      | some (o, ix', c', _, _) => Nat.beq o (mO y) && Nat.beq ix' ix && Nat.beq c' c
      | none => false) && Nat.blt c nC && Nat.beq q (mK c) && Nat.beq q q0 && Nat.beq n (if q = 2 then mA c else mA c + 1) && Nat.beq mx (mX c) && Nat.ble n mx && Nat.beq ci (mO c) &&
      (match mR c with
      | none => Nat.beq rt 0
      | some _ => Nat.beq rt 1)
  | [j, w] => (match jlT[j]? with
      | some (o, ix', w', _) => Nat.beq o (mO y) && Nat.beq ix' ix && Nat.beq w' w && Nat.beq q0 (if w = 0 then 1 else 2)
      | none => false)
  | _ => false
def okTs (y pc : Nat) : List Int → List Nat → Bool
  | [], [] => true
  | o :: os, t :: ts => okT y pc o t && okTs y pc os ts
  | _, _ => false
def tg1 (y pc : Nat) (off : Int) (inf : List Nat) : Bool := match inf with
  | t :: _ => okT y pc off t
  | [] => false
def okI (y pc : Nat) (i : Jvm.ClassFile.Instr) (inf : List Nat) : Bool := match i with
  | .bipush n => decide ((Int8.ofInt n).toInt32 = kc n)
  | .sipush n => decide ((Int16.ofInt n).toInt32 = kc n)
  | .istore n => Nat.blt n (mX y)
  | .istore_n n => Nat.blt n.val (mX y)
  | .astore n => Nat.blt n (mX y)
  | .astore_n n => Nat.blt n.val (mX y)
  | .iinc n _ => Nat.blt n (mX y)
  | .getfield ix => okF y ix inf
  | .putfield ix => okF y ix inf && okW y inf
  | .new ix => okL y ix inf
  | .anewarray ix => okL y ix inf && (match inf with
    | [_, ci] => Nat.beq ci ciRule
    | _ => false)
  | .goto off => tg1 y pc off inf
  | .ifCond _ off => tg1 y pc off inf
  | .if_icmp _ off => tg1 y pc off inf
  | .tableswitch df lo hi offs => (match inf with
    | t :: ts => okT y pc df t && okTs y pc offs.toList ts && decide (offs.size = (hi - lo + 1).toNat) && decide (-100 ≤ lo) && decide (hi ≤ 1000) && decide (lo ≤ hi)
    | [] => false)
  | .lookupswitch df ps => (match inf with
    | t :: ts => okT y pc df t && okTs y pc (ps.toList.map Prod.snd) ts && (ps.toList.zip (ps.toList.drop 1)).all (fun (a, next) => a.1 < next.1) && ps.toList.all (fun q => decide ((kc q.1).toInt = q.1))
    | [] => false)
  | .invokevirtual ix => okC y ix 0 inf
  | .invokespecial ix => okC y ix 1 inf
  | .invokestatic ix => okC y ix 2 inf
  | .ireturn => (match mR y with
    | some .boolean => (match inf with
      | [1] => true
      | _ => false)
    | some .int => (match inf with
      | [] => true
      | _ => false)
    | _ => false)
  | .return_ => (match mR y with
    | none => true
    | _ => false)
  | _ => true
def isSw : Jvm.ClassFile.Instr → Bool
  | .tableswitch .. => true
  | .lookupswitch .. => true
  | _ => false
def okE (y t : Nat) (e : En) : Bool := match e with
  | (pc, _, i, inf) => (match decode (mB y) pc with
      | .ok (i', n) => decide (i' = i) && (isSw i || Nat.beq n (il i))
      | _ => false) && okI y pc i inf && (isSw i || (match (tc y)[t + 1]? with
      | some e' => Nat.beq e'.1 (pc + il i)
      | none => true))
def okM (y : Nat) : Bool := (List.range (tc y).length).all fun t => match (tc y)[t]? with
  | some e => okE y t e
  | none => true
