/-! stretches, step by step -/
section ZST
variable {μ : Type} {t : List (Nat × zAct μ)} {ct : List (Nat × List Nat)} {nx : zK μ} {k pc : Nat} {ls : List (Option Value)} {st : List Value} {M : μ}
theorem r_go {act : zAct μ} (hc : zcut ct pc = none) (hz : zlk t pc = some act) : zrunN t ct nx (k + 1) pc ls st M = act (zrunN t ct nx k) ls st M := by
  show (match zcut ct pc with
    | some dead => nx pc (zclr dead ls) st M
    | none => match zlk t pc with
      | none => none
      | some act => act (zrunN t ct nx k) ls st M) = _
  rw [hc, hz]
theorem r_cut {dead : List Nat} {ls' : List (Option Value)} (hc : zcut ct pc = some dead) (hl : zclr dead ls = ls') : zrunN t ct nx (k + 1) pc ls st M = nx pc ls' st M := by
  show (match zcut ct pc with
    | some dead => nx pc (zclr dead ls) st M
    | none => match zlk t pc with
      | none => none
      | some act => act (zrunN t ct nx k) ls st M) = _
  rw [hc, ← hl]
theorem r_0 {act : zAct μ} {n : Nat} (hz : zlk t pc = some act) : zrgN t ct n nx pc ls st M = act (zrunN t ct nx n) ls st M := by
  unfold zrgN
  rw [hz]
theorem a_F {dead : List Nat} {act : zAct μ} {ls' : List (Option Value)} (hl : zclr dead ls = ls') : oF dead act nx ls st M = act nx ls' st M := by
  unfold oF
  rw [hl]
theorem a_C {n : Nat} {v : Value} : oS (fSt n (gC v)) nx ls st M = nx n ls (v :: st) M := rfl
theorem a_1 {n : Nat} {f : Int32 → Int32} {x : Int32} : oS (fSt n (g1 f)) nx ls (.int x :: st) M = nx n ls (.int (f x) :: st) M := rfl
theorem a_2 {n : Nat} {f : Int32 → Int32 → Int32} {x y : Int32} : oS (fSt n (g2 f)) nx ls (.int y :: .int x :: st) M = nx n ls (.int (f x y) :: st) M := rfl
theorem a_add {n : Nat} {x y : Int32} : oS (fSt n (g2 (fun x y => x + y))) nx ls (.int y :: .int x :: st) M = nx n ls (.int (x + y) :: st) M := rfl
theorem a_sub {n : Nat} {x y : Int32} : oS (fSt n (g2 (fun x y => x - y))) nx ls (.int y :: .int x :: st) M = nx n ls (.int (x - y) :: st) M := rfl
theorem a_mul {n : Nat} {x y : Int32} : oS (fSt n (g2 (fun x y => x * y))) nx ls (.int y :: .int x :: st) M = nx n ls (.int (x * y) :: st) M := rfl
theorem a_and {n : Nat} {x y : Int32} : oS (fSt n (g2 (fun x y => x &&& y))) nx ls (.int y :: .int x :: st) M = nx n ls (.int (x &&& y) :: st) M := rfl
theorem a_or {n : Nat} {x y : Int32} : oS (fSt n (g2 (fun x y => x ||| y))) nx ls (.int y :: .int x :: st) M = nx n ls (.int (x ||| y) :: st) M := rfl
theorem a_xor {n : Nat} {x y : Int32} : oS (fSt n (g2 (fun x y => x ^^^ y))) nx ls (.int y :: .int x :: st) M = nx n ls (.int (x ^^^ y) :: st) M := rfl
theorem a_shl {n : Nat} {x y : Int32} : oS (fSt n (g2 (fun x y => x <<< (y &&& 31)))) nx ls (.int y :: .int x :: st) M = nx n ls (.int (x <<< (y &&& 31)) :: st) M := rfl
theorem a_shr {n : Nat} {x y : Int32} : oS (fSt n (g2 (fun x y => x >>> (y &&& 31)))) nx ls (.int y :: .int x :: st) M = nx n ls (.int (x >>> (y &&& 31)) :: st) M := rfl
theorem a_ush {n : Nat} {x y : Int32} : oS (fSt n (g2 zushr)) nx ls (.int y :: .int x :: st) M = nx n ls (.int (zushr x y) :: st) M := rfl
theorem a_neg {n : Nat} {x : Int32} : oS (fSt n (g1 (fun x => -x))) nx ls (.int x :: st) M = nx n ls (.int (-x) :: st) M := rfl
theorem a_i2c {n : Nat} {x : Int32} : oS (fSt n (g1 (fun x => (x.toUInt32 % 65536).toInt32))) nx ls (.int x :: st) M = nx n ls (.int (x.toUInt32 % 65536).toInt32 :: st) M := rfl
theorem a_i2b {n : Nat} {x : Int32} : oS (fSt n (g1 (fun x => x.toInt8.toInt32))) nx ls (.int x :: st) M = nx n ls (.int x.toInt8.toInt32 :: st) M := rfl
theorem a_dupI {n : Nat} {x : Int32} : oS (fSt n gDup) nx ls (.int x :: st) M = nx n ls (.int x :: .int x :: st) M := rfl
theorem a_dupR {n x : Nat} : oS (fSt n gDup) nx ls (.ref x :: st) M = nx n ls (.ref x :: .ref x :: st) M := rfl
theorem a_popI {n : Nat} {x : Int32} : oS (fSt n gPop) nx ls (.int x :: st) M = nx n ls st M := rfl
theorem a_dup2 {n : Nat} {y : Int32} {x : Nat} : oS (fSt n gDup2) nx ls (.int y :: .ref x :: st) M = nx n ls (.int y :: .ref x :: .int y :: .ref x :: st) M := rfl
theorem a_i2l {n : Nat} {x : Int32} : oS (fSt n gI2l) nx ls (.int x :: st) M = nx n ls (.long x.toInt64 :: st) M := rfl
theorem a_l2i {n : Nat} {x : Int64} : oS (fSt n gL2i) nx ls (.long x :: st) M = nx n ls (.int x.toInt32 :: st) M := rfl
theorem a_lcmp {n : Nat} {x y : Int64} : oS (fSt n gLcmp) nx ls (.long y :: .long x :: st) M = nx n ls (.int (lg_cmp x y) :: st) M := rfl
theorem a_ladd {n : Nat} {x y : Int64} : oS (fSt n (gL2 (fun x y => x + y))) nx ls (.long y :: .long x :: st) M = nx n ls (.long (x + y) :: st) M := rfl
theorem a_lmul {n : Nat} {x y : Int64} : oS (fSt n (gL2 (fun x y => x * y))) nx ls (.long y :: .long x :: st) M = nx n ls (.long (x * y) :: st) M := rfl
theorem a_div {n : Nat} {x y : Int32} : oS (fDiv n) nx ls (.int y :: .int x :: st) M = bif !decide (y = 0) then nx n ls (.int (x / y) :: st) M else none := rfl
theorem a_rem {n : Nat} {x y : Int32} : oS (fRem n) nx ls (.int y :: .int x :: st) M = bif !decide (y = 0) then nx n ls (.int (x - x / y * y) :: st) M else none := rfl
theorem a_ldv {n : Nat} {x y : Int64} : oS (fLdiv n) nx ls (.long y :: .long x :: st) M = bif !decide (y = 0) then nx n ls (.long (x / y) :: st) M else none := rfl
theorem a_ild {n i : Nat} {x : Int32} (h : ls[i]? = some (some (.int x))) : oS (fIld n i) nx ls st M = nx n ls (.int x :: st) M := by
  unfold oS fIld
  rw [h]; rfl
theorem a_ald {n i x : Nat} (h : ls[i]? = some (some (.ref x))) : oS (fAld n i) nx ls st M = nx n ls (.ref x :: st) M := by
  unfold oS fAld
  rw [h]; rfl
theorem a_lld {n i : Nat} {x : Int64} (h : ls[i]? = some (some (.long x))) : oS (fLld n i) nx ls st M = nx n ls (.long x :: st) M := by
  unfold oS fLld
  rw [h]; rfl
theorem a_ist {n i : Nat} {x : Int32} {ls' : List (Option Value)} (h : zpl ls i = true) (hl : ls.set i (some (.int x)) = ls') : oS (fIst n i) nx ls (.int x :: st) M = nx n ls' st M := by
  show (bif zpl ls i then nx n (ls.set i (some (.int x))) st M else none) = _
  rw [h, hl]; rfl
theorem a_ast {n i x : Nat} {ls' : List (Option Value)} (h : zpl ls i = true) (hl : ls.set i (some (.ref x)) = ls') : oS (fAst n i) nx ls (.ref x :: st) M = nx n ls' st M := by
  show (bif zpl ls i then nx n (ls.set i (some (.ref x))) st M else none) = _
  rw [h, hl]; rfl
theorem a_lst {n i : Nat} {x : Int64} {ls' : List (Option Value)} (h : zpl ls i = true) (hl : (ls.set i (some (.long x))).set (i + 1) none = ls') : oS (fLst n i) nx ls (.long x :: st) M = nx n ls' st M := by
  show (bif zpl ls i then nx n ((ls.set i (some (.long x))).set (i + 1) none) st M else none) = _
  rw [h, hl]; rfl
theorem a_inc {n i : Nat} {x c : Int32} {ls' : List (Option Value)} (h0 : ls[i]? = some (some (.int x))) (h : zpl ls i = true) (hl : ls.set i (some (.int (x + c))) = ls') : oS (fInc n i c) nx ls st M = nx n ls' st M := by
  unfold oS fInc
  rw [h0]
  show (bif zpl ls i then nx n (ls.set i (some (.int (x + c)))) st M else none) = _
  rw [h, hl]; rfl
theorem a_goto {n : Nat} : oS (fGo n) nx ls st M = nx n ls st M := rfl
theorem a_if {a b : Nat} {c : Int32 → Bool} {x : Int32} : oS (fIf a b c) nx ls (.int x :: st) M = bif c x then nx a ls st M else nx b ls st M := rfl
theorem a_ifT {a b : Nat} {c : Int32 → Bool} {x : Int32} (h : c x = true) : oS (fIf a b c) nx ls (.int x :: st) M = nx a ls st M := by
  rw [a_if, h]; rfl
theorem a_ifF {a b : Nat} {c : Int32 → Bool} {x : Int32} (h : c x = false) : oS (fIf a b c) nx ls (.int x :: st) M = nx b ls st M := by
  rw [a_if, h]; rfl
theorem a_cm {a b : Nat} {c : Int32 → Int32 → Bool} {x y : Int32} : oS (fCm a b c) nx ls (.int y :: .int x :: st) M = bif c x y then nx a ls st M else nx b ls st M := rfl
theorem a_cmT {a b : Nat} {c : Int32 → Int32 → Bool} {x y : Int32} (h : c x y = true) : oS (fCm a b c) nx ls (.int y :: .int x :: st) M = nx a ls st M := by
  rw [a_cm, h]; rfl
theorem a_cmF {a b : Nat} {c : Int32 → Int32 → Bool} {x y : Int32} (h : c x y = false) : oS (fCm a b c) nx ls (.int y :: .int x :: st) M = nx b ls st M := by
  rw [a_cm, h]; rfl
theorem a_nulN {a b : Nat} : oS (fNul a b) nx ls (.null :: st) M = nx a ls st M := rfl
theorem a_nulR {a b x : Nat} : oS (fNul a b) nx ls (.ref x :: st) M = nx b ls st M := rfl
theorem a_sw {df : Nat} {cs : List (Int32 × Nat)} {x : Int32} : oSw df cs nx ls (.int x :: st) M = zsw nx ls st M x df cs := rfl
theorem a_swN {df : Nat} {x : Int32} : zsw nx ls st M x df [] = nx df ls st M := rfl
theorem a_swC {df : Nat} {x : Int32} {q : Int32 × Nat} {r : List (Int32 × Nat)} : zsw nx ls st M x df (q :: r) = bif cEq x q.1 then nx q.2 ls st M else zsw nx ls st M x df r := rfl
theorem a_iret {x : Int32} : oIret nx ls [.int x] M = some (some (.int x), M) := rfl
theorem a_zret {x : Int32} : oZret nx ls [.int x] M = bif cEq (x &&& 1) x then some (some (.int x), M) else none := rfl
theorem a_nret {ty : FieldType} {x : Int32} : oNret ty nx ls [.int x] M = bif zNr ty x then some (some (.int x), M) else none := rfl
theorem a_vret : oVret nx ls [] M = some (none, M) := rfl
theorem a_ldS {n i : Nat} : oS (fLdS n i) nx ls st M = nx n ls (.ref (1000 + i) :: st) M := rfl
theorem a_sval {n a : Nat} (h : zisS a = true) : oS (fGsv n) nx ls (.ref a :: st) M = nx n ls (.ref (a + 10) :: st) M := by
  show (bif zisS a then nx n ls (.ref (a + 10) :: st) M else none) = _
  rw [h]; rfl
theorem a_scod {n a : Nat} (h : zisS a = true) : oS (fGsc n) nx ls (.ref a :: st) M = nx n ls (.int 0 :: st) M := by
  show (bif zisS a then nx n ls (.int 0 :: st) M else none) = _
  rw [h]; rfl
theorem a_slen {n a : Nat} (h : zisB a = true) : oS (fAln n) nx ls (.ref a :: st) M = nx n ls (.int (nI (zln a)) :: st) M := by
  show (bif zisB a then nx n ls (.int (nI (zln a)) :: st) M else none) = _
  rw [h]; rfl
theorem a_sbal {n a : Nat} {i : Int32} (h : zisB a = true) : oS (fBal n) nx ls (.int i :: .ref a :: st) M = bif zb i (zln a) then nx n ls (.int (zbt a (zx i)) :: st) M else none := by
  show (bif zisB a && zb i (zln a) then nx n ls (.int (zbt a (zx i)) :: st) M else none) = _
  rw [h]; rfl
theorem a_cI {n j : Nat} {chk : List Value → Bool} {F : List Value → μ → Option (Option Value × μ)} {as st' : List Value} (hp : zpop j st [] = some (as, st')) (h : (chk as && zrm st') = true) : oCI n j chk F nx ls st M = zbI (F as M) (fun x M' => nx n ls (.int x :: st') M') := by
  unfold oCI
  rw [hp]
  show (bif (chk as && zrm st') then _ else _) = _
  rw [h]; rfl
theorem a_cV {n j : Nat} {chk : List Value → Bool} {F : List Value → μ → Option (Option Value × μ)} {as st' : List Value} (hp : zpop j st [] = some (as, st')) (h : (chk as && zrm st') = true) : oCV n j chk F nx ls st M = zbV (F as M) (fun M' => nx n ls st' M') := by
  unfold oCV
  rw [hp]
  show (bif (chk as && zrm st') then _ else _) = _
  rw [h]; rfl
end ZST
theorem bcg {α : Type} {c : Bool} {a a' b b' : α} (h1 : a = a') (h2 : b = b') : (bif c then a else b) = (bif c then a' else b') := by rw [h1, h2]
theorem bcT {α : Type} {c : Bool} {a b : α} (h : c = true) : (bif c then a else b) = a := by rw [h]; rfl
theorem zbI_cg {μ ρ : Type} {o : Option (Option Value × μ)} {k k' : Int32 → μ → Option ρ} (h : ∀ x M, k x M = k' x M) : zbI o k = zbI o k' := by
  have : k = k' := funext fun x => funext fun M => h x M
  rw [this]
theorem zbV_cg {μ ρ : Type} {o : Option (Option Value × μ)} {k k' : μ → Option ρ} (h : ∀ M, k M = k' M) : zbV o k = zbV o k' := by
  have : k = k' := funext fun M => h M
  rw [this]
section ZSN
variable {g : zg} {nx : zK zM} {n : Nat} {ls : List (Option Value)} {st : List Value} {M : zM}
theorem a_gi {ci k a : Nat} (h : (zA g a && zsh (zS a) 1 ci) = true) : oS (fGi g n ci k) nx ls (.ref a :: st) M = nx n ls (.int (M.1 a k) :: st) M := by
  show (bif (zA g a && zsh (zS a) 1 ci) then nx n ls (.int (M.1 a k) :: st) M else none) = _
  rw [h]; rfl
theorem a_giV {ci k a : Nat} {v : Int32} (h : (zA g a && zsh (zS a) 1 ci) = true) (hv : M.1 a k = v) : oS (fGi g n ci k) nx ls (.ref a :: st) M = nx n ls (.int v :: st) M := by
  rw [a_gi h, hv]
theorem a_gr {ci k a b : Nat} (h : (zA g a && zsh (zS a) 1 ci) = true) (hr : zRs g a k = some b) : oS (fGr g n ci k) nx ls (.ref a :: st) M = nx n ls (.ref b :: st) M := by
  show (bif (zA g a && zsh (zS a) 1 ci) then nx n ls (zRv (zRs g a k) :: st) M else none) = _
  rw [h, hr]; rfl
theorem a_pi {ci k a : Nat} {v : Int32} (h : (zA g a && zsh (zS a) 1 ci) = true) : oS (fPi g n ci k) nx ls (.int v :: .ref a :: st) M = nx n ls st (zu M.1 a k v, M.2) := by
  show (bif (zA g a && zsh (zS a) 1 ci) then nx n ls st (zu M.1 a k v, M.2) else none) = _
  rw [h]; rfl
theorem a_pz {ci k a : Nat} {v : Int32} (h : (zA g a && zsh (zS a) 1 ci) = true) : oS (fPz g n ci k) nx ls (.int v :: .ref a :: st) M = bif cEq (v &&& 1) v then nx n ls st (zu M.1 a k v, M.2) else none := by
  show (bif (zA g a && zsh (zS a) 1 ci && cEq (v &&& 1) v) then nx n ls st (zu M.1 a k v, M.2) else none) = _
  rw [h]; rfl
theorem a_pzK {ci k a : Nat} {v : Int32} (h : (zA g a && zsh (zS a) 1 ci) = true) (hv : cEq (v &&& 1) v = true) : oS (fPz g n ci k) nx ls (.int v :: .ref a :: st) M = nx n ls st (zu M.1 a k v, M.2) := by
  rw [a_pz h, hv]; rfl
theorem a_ia {a len : Nat} {i : Int32} (h : zA g a = true) (hs : zS a = (2, len)) : oS (fIa g n) nx ls (.int i :: .ref a :: st) M = bif zb i len then nx n ls (.int (M.1 a (zx i)) :: st) M else none := by
  show (bif (zA g a && Nat.beq (zS a).1 2 && zb i (zS a).2) then nx n ls (.int (M.1 a (zx i)) :: st) M else none) = _
  rw [h, hs]; rfl
theorem a_iaK {a len j : Nat} {i : Int32} (h : zA g a = true) (hs : zS a = (2, len)) (hi : zb i len = true) (hj : zx i = j) : oS (fIa g n) nx ls (.int i :: .ref a :: st) M = nx n ls (.int (M.1 a j) :: st) M := by
  rw [a_ia h hs, hi, hj]; rfl
theorem a_iaV {a len : Nat} {i v : Int32} (h : zA g a = true) (hs : zS a = (2, len)) (hv : M.1 a (zx i) = v) : oS (fIa g n) nx ls (.int i :: .ref a :: st) M = bif zb i len then nx n ls (.int v :: st) M else none := by
  rw [a_ia h hs, hv]
theorem a_iaKV {a len j : Nat} {i v : Int32} (h : zA g a = true) (hs : zS a = (2, len)) (hi : zb i len = true) (hj : zx i = j) (hv : M.1 a j = v) : oS (fIa g n) nx ls (.int i :: .ref a :: st) M = nx n ls (.int v :: st) M := by
  rw [a_iaK h hs hi hj, hv]
theorem a_is {a len : Nat} {i v : Int32} (h : zA g a = true) (hs : zS a = (2, len)) : oS (fIs g n) nx ls (.int v :: .int i :: .ref a :: st) M = bif zb i len then nx n ls st (zu M.1 a (zx i) v, M.2) else none := by
  show (bif (zA g a && Nat.beq (zS a).1 2 && zb i (zS a).2) then nx n ls st (zu M.1 a (zx i) v, M.2) else none) = _
  rw [h, hs]; rfl
theorem a_isK {a len j : Nat} {i v : Int32} (h : zA g a = true) (hs : zS a = (2, len)) (hi : zb i len = true) (hj : zx i = j) : oS (fIs g n) nx ls (.int v :: .int i :: .ref a :: st) M = nx n ls st (zu M.1 a j v, M.2) := by
  rw [a_is h hs, hi, hj]; rfl
theorem a_la {a len : Nat} {i : Int32} (h : zA g a = true) (hs : zS a = (3, len)) : oS (fLa g n) nx ls (.int i :: .ref a :: st) M = bif zb i len then nx n ls (.long (M.2 a (zx i)) :: st) M else none := by
  show (bif (zA g a && Nat.beq (zS a).1 3 && zb i (zS a).2) then nx n ls (.long (M.2 a (zx i)) :: st) M else none) = _
  rw [h, hs]; rfl
theorem a_ls {a len : Nat} {i : Int32} {v : Int64} (h : zA g a = true) (hs : zS a = (3, len)) : oS (fLs g n) nx ls (.long v :: .int i :: .ref a :: st) M = bif zb i len then nx n ls st (M.1, zuL M.2 a (zx i) v) else none := by
  show (bif (zA g a && Nat.beq (zS a).1 3 && zb i (zS a).2) then nx n ls st (M.1, zuL M.2 a (zx i) v) else none) = _
  rw [h, hs]; rfl
theorem a_aa {a0 : Nat} {i : Int32} {cs : List (Int32 × Nat)} (h : (Nat.beq a0 a0 && zA g a0 && Nat.beq (zS a0).1 4) = true) : oAa g n a0 cs nx ls (.int i :: .ref a0 :: st) M = zsa nx n ls st M i cs := by
  show (bif (Nat.beq a0 a0 && zA g a0 && Nat.beq (zS a0).1 4) then zsa nx n ls st M i cs else none) = _
  rw [h]; rfl
theorem a_saN {i : Int32} : zsa nx n ls st M i [] = none := rfl
theorem a_saC {i : Int32} {q : Int32 × Nat} {r : List (Int32 × Nat)} : zsa nx n ls st M i (q :: r) = bif cEq i q.1 then nx n ls (.ref q.2 :: st) M else zsa nx n ls st M i r := rfl
theorem a_cp {a b : Nat} {c : Int32} (h : (cEq 0 0 && cEq 0 0 && (zA g a && zA g b) && (Nat.beq (zS a).1 2 && Nat.beq (zS b).1 2) && !cLt0 c && (Nat.ble (zx c) (zS a).2 && Nat.ble (zx c) (zS b).2) && Nat.ble st.length 4) = true) : oS (fCp g n) nx ls (.int c :: .int 0 :: .ref b :: .int 0 :: .ref a :: st) M = nx n ls st (zcp M.1 a b (zx c), M.2) := by
  show (bif (cEq 0 0 && cEq 0 0 && (zA g a && zA g b) && (Nat.beq (zS a).1 2 && Nat.beq (zS b).1 2) && !cLt0 c && (Nat.ble (zx c) (zS a).2 && Nat.ble (zx c) (zS b).2) && Nat.ble st.length 4) then nx n ls st (zcp M.1 a b (zx c), M.2) else none) = _
  rw [h]; rfl
end ZSN
