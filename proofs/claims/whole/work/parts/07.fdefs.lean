/-! THE PLAIN FUNCTIONS: what each method does, written by program out of the bytecode (v: locals by their slots; j, l: labels, loops by their places) -/
def Book_add (v0 : Nat) (v1 : Int32) (v2 : Int32) (v3 : Int32) (v4 : Int32) (v5 : Int32) (μ : Mm) : Option Mm :=
  if (μ.1 v0 5) < (nI 200) then
    chv (μ.1 v0 5) 200 <|
    lt (sti μ (v0 + 1) (ix (μ.1 v0 5)) v1) fun μ1 =>
    chv (μ1.1 v0 5) 200 <|
    lt (sti μ1 (v0 + 2) (ix (μ1.1 v0 5)) v2) fun μ2 =>
    chv (μ2.1 v0 5) 200 <|
    lt (sti μ2 (v0 + 3) (ix (μ2.1 v0 5)) v3) fun μ3 =>
    chv (μ3.1 v0 5) 200 <|
    lt (sti μ3 (v0 + 4) (ix (μ3.1 v0 5)) v4) fun μ4 =>
    chv (μ4.1 v0 5) 200 <|
    lt (sti μ4 (v0 + 5) (ix (μ4.1 v0 5)) v5) fun μ5 =>
    lt (sti μ5 v0 5 ((μ5.1 v0 5) + (nI 1))) fun μ6 =>
    some μ6
  else
    some μ
def Book_copyFrom (v0 : Nat) (v1 : Nat) (μ : Mm) : Option Mm :=
  chc (nI 0) (nI 0) (μ.1 v1 5) 200 200 <|
  lt (cpy μ (v1 + 1) (ix (nI 0)) (v0 + 1) (ix (nI 0)) (ix (μ.1 v1 5))) fun μ1 =>
  chc (nI 0) (nI 0) (μ1.1 v1 5) 200 200 <|
  lt (cpy μ1 (v1 + 2) (ix (nI 0)) (v0 + 2) (ix (nI 0)) (ix (μ1.1 v1 5))) fun μ2 =>
  chc (nI 0) (nI 0) (μ2.1 v1 5) 200 200 <|
  lt (cpy μ2 (v1 + 3) (ix (nI 0)) (v0 + 3) (ix (nI 0)) (ix (μ2.1 v1 5))) fun μ3 =>
  chc (nI 0) (nI 0) (μ3.1 v1 5) 200 200 <|
  lt (cpy μ3 (v1 + 4) (ix (nI 0)) (v0 + 4) (ix (nI 0)) (ix (μ3.1 v1 5))) fun μ4 =>
  chc (nI 0) (nI 0) (μ4.1 v1 5) 200 200 <|
  lt (cpy μ4 (v1 + 5) (ix (nI 0)) (v0 + 5) (ix (nI 0)) (ix (μ4.1 v1 5))) fun μ5 =>
  lt (sti μ5 v0 5 (μ5.1 v1 5)) fun μ6 =>
  some μ6
def Law_clear (v0 : Nat) (μ : Mm) : Option Mm :=
  lt (sti μ v0 5 (nI 0)) fun μ1 =>
  lt (sti μ1 v0 6 (nI 0)) fun μ2 =>
  some μ2
def Law_add (v0 : Nat) (v1 : Int32) (μ : Mm) : Option Mm :=
  if (nI 400) ≤ (μ.1 v0 5) then
    some μ
  else
    chv (μ.1 v0 5) 400 <|
    lt (sti μ (v0 + 1) (ix (μ.1 v0 5)) v1) fun μ1 =>
    lt (sti μ1 v0 5 ((μ1.1 v0 5) + (nI 1))) fun μ2 =>
    some μ2
def Law_addLine (v0 : Nat) (v1 : Int32) (v2 : Int32) (μ : Mm) : Option Mm :=
  if (nI 16) ≤ (μ.1 v0 6) then
    some μ
  else
    chv (μ.1 v0 6) 16 <|
    lt (sti μ (v0 + 2) (ix (μ.1 v0 6)) v1) fun μ1 =>
    chv (μ1.1 v0 6) 16 <|
    lt (sti μ1 (v0 + 3) (ix (μ1.1 v0 6)) v2) fun μ2 =>
    chv (μ2.1 v0 6) 16 <|
    lt (sti μ2 (v0 + 4) (ix (μ2.1 v0 6)) (μ2.1 v0 5)) fun μ3 =>
    lt (sti μ3 v0 6 ((μ3.1 v0 6) + (nI 1))) fun μ4 =>
    some μ4
def Law_joined (v0 : Int32) (v1 : Int32) (v2 : Int32) : Option Int32 :=
  if v0 = (nI 42) then
    some (v1 * v2)
  else
    if v0 = (nI 43) then
      some (v1 + v2)
    else
      if v0 = (nI 45) then
        some (v1 - v2)
      else
        if v0 = (nI 47) then
          if v2 = 0 then
            some (nI 0)
          else
            chk (¬ (v2 : Int32) = 0) <|
            some (v1 / v2)
        else
          if v0 = (nI 60) then
            if v2 ≤ v1 then
              some (nI 0)
            else
              some (nI 1)
          else
            if v0 = (nI 61) then
              if v1 = v2 then
                some (nI 1)
              else
                some (nI 0)
            else
              if v0 = (nI 62) then
                if v1 ≤ v2 then
                  some (nI 0)
                else
                  some (nI 1)
              else
                if v0 = (nI 304) then
                  some (v1 &&& v2)
                else
                  some (v1 ||| v2)
def Law_run_j149 (v0 : Nat) (v2 : Int32) (v3 : Nat) (v4 : Int32) (v5 : Int32) (μ : Mm) : Option ((Int32 × Int32 × Mm) ⊕ Mm) :=
  some (.inl (v4, (v5 + (nI 1)), μ))
def Law_run_j106 (v0 : Nat) (v2 : Int32) (v3 : Nat) (v4 : Int32) (v5 : Int32) (v6 : Int32) (μ : Mm) : Option ((Int32 × Int32 × Mm) ⊕ Mm) :=
  if v4 ≤ (nI 1) then
    Law_run_j149 v0 v2 v3 v4 v5 μ
  else
    chv ((v4 + (-1)) - (nI 1)) 32 <|
    chv (v4 + (-1)) 32 <|
    bnd (Law_joined (v6 - (nI 20000)) (μ.1 (v0 + 5) (ix ((v4 + (-1)) - (nI 1)))) (μ.1 (v0 + 5) (ix (v4 + (-1))))) fun r1 =>
    chv ((v4 + (-1)) - (nI 1)) 32 <|
    lt (sti μ (v0 + 5) (ix ((v4 + (-1)) - (nI 1))) r1) fun μ2 =>
    Law_run_j149 v0 v2 v3 (v4 + (-1)) v5 μ2
def Law_run_j70 (v0 : Nat) (v2 : Int32) (v3 : Nat) (v4 : Int32) (v5 : Int32) (v6 : Int32) (μ : Mm) : Option ((Int32 × Int32 × Mm) ⊕ Mm) :=
  if v6 = (nI 20305) then
    if v4 ≤ 0 then
      Law_run_j106 v0 v2 v3 v4 v5 v6 μ
    else
      chv (v4 - (nI 1)) 32 <|
      chv (v4 - (nI 1)) 32 <|
      lt (sti μ (v0 + 5) (ix (v4 - (nI 1))) ((nI 1) - (μ.1 (v0 + 5) (ix (v4 - (nI 1)))))) fun μ3 =>
      Law_run_j149 v0 v2 v3 v4 v5 μ3
  else
    Law_run_j106 v0 v2 v3 v4 v5 v6 μ
def Law_run_j63 (v0 : Nat) (v2 : Int32) (v3 : Nat) (v4 : Int32) (v5 : Int32) (s0 : Nat) (s1 : Int32) (s2 : Int32) (μ : Mm) : Option ((Int32 × Int32 × Mm) ⊕ Mm) :=
  chv s1 (sL SC s0) <|
  lt (sti μ s0 (ix s1) s2) fun μ4 =>
  Law_run_j149 v0 v2 v3 (v4 + (nI 1)) v5 μ4
def Law_run_l6 (v0 : Nat) (v2 : Int32) (v3 : Nat) (v4 : Int32) (v5 : Int32) (μ : Mm) : Option ((Int32 × Int32 × Mm) ⊕ Mm) :=
  if v2 ≤ v5 then
    some (.inr μ)
  else
    chv v5 400 <|
    if (nI 20000) ≤ (μ.1 (v0 + 1) (ix v5)) then
      Law_run_j70 v0 v2 v3 v4 v5 (μ.1 (v0 + 1) (ix v5)) μ
    else
      if (nI 32) ≤ v4 then
        Law_run_j70 v0 v2 v3 v4 v5 (μ.1 (v0 + 1) (ix v5)) μ
      else
        if (nI 10000) ≤ (μ.1 (v0 + 1) (ix v5)) then
          chv ((μ.1 (v0 + 1) (ix v5)) - (nI 10000)) (sL SC v3) <|
          Law_run_j63 v0 v2 v3 v4 v5 (v0 + 5) v4 (μ.1 v3 (ix ((μ.1 (v0 + 1) (ix v5)) - (nI 10000)))) μ
        else
          Law_run_j63 v0 v2 v3 v4 v5 (v0 + 5) v4 (μ.1 (v0 + 1) (ix v5)) μ
def Law_run (v0 : Nat) (v1 : Int32) (v2 : Int32) (v3 : Nat) (μ : Mm) : Option (Int32 × Mm) :=
  bni (iter 1000000 (fun s => Law_run_l6 v0 v2 v3 s.1 s.2.1 s.2.2) ((nI 0), v1, μ)) fun x6 =>
  chv (nI 0) 32 <|
  some ((x6.1 (v0 + 5) (ix (nI 0))), x6)
def Law_valueFor_l2 (v0 : Nat) (v1 : Nat) (v2 : Int32) (v3 : Int32) (μ : Mm) : Option ((Int32 × Mm) ⊕ ((Int32 × Mm) ⊕ Mm)) :=
  if (μ.1 v0 6) ≤ v3 then
    some (.inr (Sum.inr μ))
  else
    chv v3 16 <|
    chv v3 16 <|
    if (μ.1 (v0 + 3) (ix v3)) = (μ.1 (v0 + 4) (ix v3)) then
      some (.inr (Sum.inl (v3, μ)))
    else
      chv v3 16 <|
      chv v3 16 <|
      bnd2 (Law_run v0 (μ.1 (v0 + 3) (ix v3)) (μ.1 (v0 + 4) (ix v3)) v1 μ) fun r2 μ1 =>
      if r2 = 0 then
        some (.inl ((v3 + (nI 1)), μ1))
      else
        some (.inr (Sum.inl (v3, μ1)))
def Law_valueFor_j45 (v0 : Nat) (v1 : Nat) (v3 : Int32) (μ : Mm) : Option (Int32 × Mm) :=
  chv v3 16 <|
  chv v3 16 <|
  bnd2 (Law_run v0 (μ.1 (v0 + 2) (ix v3)) (μ.1 (v0 + 3) (ix v3)) v1 μ) fun r4 μ3 =>
  some (r4, μ3)
def Law_valueFor (v0 : Nat) (v1 : Nat) (v2 : Int32) (μ : Mm) : Option (Int32 × Mm) :=
  bni (iter 1000000 (fun s => Law_valueFor_l2 v0 v1 v2 s.1 s.2) ((nI 0), μ)) fun x2 => 
  (Sum.elim (fun x2a =>
    Law_valueFor_j45 v0 v1 x2a.1 x2a.2)
    (fun x2b =>
      some (v2, x2b))) x2
def Law_copyFrom (v0 : Nat) (v1 : Nat) (μ : Mm) : Option Mm :=
  chc (nI 0) (nI 0) (μ.1 v1 5) 400 400 <|
  lt (cpy μ (v1 + 1) (ix (nI 0)) (v0 + 1) (ix (nI 0)) (ix (μ.1 v1 5))) fun μ1 =>
  chc (nI 0) (nI 0) (μ1.1 v1 6) 16 16 <|
  lt (cpy μ1 (v1 + 2) (ix (nI 0)) (v0 + 2) (ix (nI 0)) (ix (μ1.1 v1 6))) fun μ2 =>
  chc (nI 0) (nI 0) (μ2.1 v1 6) 16 16 <|
  lt (cpy μ2 (v1 + 3) (ix (nI 0)) (v0 + 3) (ix (nI 0)) (ix (μ2.1 v1 6))) fun μ3 =>
  chc (nI 0) (nI 0) (μ3.1 v1 6) 16 16 <|
  lt (cpy μ3 (v1 + 4) (ix (nI 0)) (v0 + 4) (ix (nI 0)) (ix (μ3.1 v1 6))) fun μ4 =>
  lt (sti μ4 v0 5 (μ4.1 v1 5)) fun μ5 =>
  lt (sti μ5 v0 6 (μ5.1 v1 6)) fun μ6 =>
  some μ6
def Letters_isFull (v0 : Nat) (μ : Mm) : Option Int32 :=
  if (μ.1 v0 5) < (nI (sL SC (v0 + 1))) then
    some (nI 0)
  else
    some (nI 1)
def Letters_has (v0 : Nat) (v1 : Int32) (μ : Mm) : Option Int32 :=
  if v1 < 0 then
    some (nI 0)
  else
    if (μ.1 v0 5) ≤ v1 then
      some (nI 0)
    else
      some (nI 1)
def Letters_add (v0 : Nat) (v1 : Int32) (v2 : Int32) (v3 : Int32) (v4 : Int32) (v5 : Int32) (μ : Mm) : Option Mm :=
  bnd (Letters_isFull v0 μ) fun r1 =>
  if r1 = 0 then
    chv (μ.1 v0 5) (sL SC (v0 + 1)) <|
    lt (sti μ (v0 + 1) (ix (μ.1 v0 5)) v1) fun μ2 =>
    chv (μ2.1 v0 5) (sL SC (v0 + 2)) <|
    lt (sti μ2 (v0 + 2) (ix (μ2.1 v0 5)) v2) fun μ3 =>
    chv (μ3.1 v0 5) (sL SC (v0 + 3)) <|
    lt (sti μ3 (v0 + 3) (ix (μ3.1 v0 5)) v3) fun μ4 =>
    chv (μ4.1 v0 5) (sL SC (v0 + 4)) <|
    lt (sti μ4 (v0 + 4) (ix (μ4.1 v0 5)) v4) fun μ5 =>
    chv (μ5.1 v0 5) (sL SC (v0 + 5)) <|
    lt (sti μ5 (v0 + 5) (ix (μ5.1 v0 5)) v5) fun μ6 =>
    lt (sti μ6 v0 5 ((μ6.1 v0 5) + (nI 1))) fun μ7 =>
    some μ7
  else
    some μ
def Letters_remove (v0 : Nat) (v1 : Int32) (μ : Mm) : Option Mm :=
  bnd (Letters_has v0 v1 μ) fun r1 =>
  if r1 = 0 then
    some μ
  else
    lt (sti μ v0 5 ((μ.1 v0 5) - (nI 1))) fun μ2 =>
    chc (v1 + (nI 1)) v1 ((μ2.1 v0 5) - v1) (sL SC (v0 + 1)) (sL SC (v0 + 1)) <|
    lt (cpy μ2 (v0 + 1) (ix (v1 + (nI 1))) (v0 + 1) (ix v1) (ix ((μ2.1 v0 5) - v1))) fun μ3 =>
    chc (v1 + (nI 1)) v1 ((μ3.1 v0 5) - v1) (sL SC (v0 + 2)) (sL SC (v0 + 2)) <|
    lt (cpy μ3 (v0 + 2) (ix (v1 + (nI 1))) (v0 + 2) (ix v1) (ix ((μ3.1 v0 5) - v1))) fun μ4 =>
    chc (v1 + (nI 1)) v1 ((μ4.1 v0 5) - v1) (sL SC (v0 + 3)) (sL SC (v0 + 3)) <|
    lt (cpy μ4 (v0 + 3) (ix (v1 + (nI 1))) (v0 + 3) (ix v1) (ix ((μ4.1 v0 5) - v1))) fun μ5 =>
    chc (v1 + (nI 1)) v1 ((μ5.1 v0 5) - v1) (sL SC (v0 + 4)) (sL SC (v0 + 4)) <|
    lt (cpy μ5 (v0 + 4) (ix (v1 + (nI 1))) (v0 + 4) (ix v1) (ix ((μ5.1 v0 5) - v1))) fun μ6 =>
    chc (v1 + (nI 1)) v1 ((μ6.1 v0 5) - v1) (sL SC (v0 + 5)) (sL SC (v0 + 5)) <|
    lt (cpy μ6 (v0 + 5) (ix (v1 + (nI 1))) (v0 + 5) (ix v1) (ix ((μ6.1 v0 5) - v1))) fun μ7 =>
    some μ7
def Letters_copyFrom (v0 : Nat) (v1 : Nat) (μ : Mm) : Option Mm :=
  chc (nI 0) (nI 0) (μ.1 v1 5) (sL SC (v1 + 1)) (sL SC (v0 + 1)) <|
  lt (cpy μ (v1 + 1) (ix (nI 0)) (v0 + 1) (ix (nI 0)) (ix (μ.1 v1 5))) fun μ1 =>
  chc (nI 0) (nI 0) (μ1.1 v1 5) (sL SC (v1 + 2)) (sL SC (v0 + 2)) <|
  lt (cpy μ1 (v1 + 2) (ix (nI 0)) (v0 + 2) (ix (nI 0)) (ix (μ1.1 v1 5))) fun μ2 =>
  chc (nI 0) (nI 0) (μ2.1 v1 5) (sL SC (v1 + 3)) (sL SC (v0 + 3)) <|
  lt (cpy μ2 (v1 + 3) (ix (nI 0)) (v0 + 3) (ix (nI 0)) (ix (μ2.1 v1 5))) fun μ3 =>
  chc (nI 0) (nI 0) (μ3.1 v1 5) (sL SC (v1 + 4)) (sL SC (v0 + 4)) <|
  lt (cpy μ3 (v1 + 4) (ix (nI 0)) (v0 + 4) (ix (nI 0)) (ix (μ3.1 v1 5))) fun μ4 =>
  chc (nI 0) (nI 0) (μ4.1 v1 5) (sL SC (v1 + 5)) (sL SC (v0 + 5)) <|
  lt (cpy μ4 (v1 + 5) (ix (nI 0)) (v0 + 5) (ix (nI 0)) (ix (μ4.1 v1 5))) fun μ5 =>
  lt (sti μ5 v0 5 (μ5.1 v1 5)) fun μ6 =>
  some μ6
def Person_begin (v0 : Nat) (v1 : Int32) (v2 : Int32) (v3 : Int32) (μ : Mm) : Option Mm :=
  chv (nI 0) 6 <|
  lt (sti μ (v0 + 1) (ix (nI 0)) v1) fun μ1 =>
  chv (nI 1) 6 <|
  lt (sti μ1 (v0 + 1) (ix (nI 1)) v2) fun μ2 =>
  chv (nI 2) 6 <|
  lt (sti μ2 (v0 + 1) (ix (nI 2)) v3) fun μ3 =>
  chv (nI 3) 6 <|
  lt (sti μ3 (v0 + 1) (ix (nI 3)) (nI 0)) fun μ4 =>
  chv (nI 4) 6 <|
  lt (sti μ4 (v0 + 1) (ix (nI 4)) (nI 0)) fun μ5 =>
  chv (nI 5) 6 <|
  lt (sti μ5 (v0 + 1) (ix (nI 5)) (nI 0)) fun μ6 =>
  lt (sti μ6 (v0 + 3) 5 (nI 0)) fun μ7 =>
  lt (sti μ7 v0 3 (nI 0)) fun μ8 =>
  lt (sti μ8 v0 4 (nI 0)) fun μ9 =>
  lt (sti μ9 v0 5 (nI 0)) fun μ10 =>
  lt (stl μ10 v0 6 0) fun μ11 =>
  some μ11
def Person_isWriting (v0 : Nat) (μ : Mm) : Option Int32 :=
  chv (nI 1) 6 <|
  if (μ.1 (v0 + 1) (ix (nI 1))) = (nI 2) then
    some (nI 0)
  else
    chv (nI 5) 6 <|
    if (μ.1 (v0 + 1) (ix (nI 5))) = 0 then
      if (μ.1 v0 3) ≤ 0 then
        some (nI 0)
      else
        some (nI 1)
    else
      some (nI 0)
def Person_passesOn (v0 : Nat) (μ : Mm) : Option Int32 :=
  chv (nI 1) 6 <|
  if (μ.1 (v0 + 1) (ix (nI 1))) = 0 then
    chv (nI 5) 6 <|
    if (μ.1 (v0 + 1) (ix (nI 5))) = 0 then
      some (nI 1)
    else
      some (nI 0)
  else
    some (nI 0)
def Person_rowSet_l4 (v0 : Nat) (v1 : Int32) (v2 : Int32) (μ : Mm) : Option ((Int32 × Int32) ⊕ Int32) :=
  if (μ.1 v0 3) ≤ v2 then
    some (.inr v1)
  else
    chv v2 9 <|
    lt (v1 ||| ((nI 1) <<< ((μ.1 (v0 + 2) (ix v2)) &&& 31))) fun u1 =>
    some (.inl (u1, (v2 + (nI 1))))
def Person_rowSet (v0 : Nat) (μ : Mm) : Option Int32 :=
  bni (iter 1000000 (fun s => Person_rowSet_l4 v0 s.1 s.2 μ) ((nI 0), (nI 0))) fun x4 =>
  some x4
def Person_copyFrom (v0 : Nat) (v1 : Nat) (μ : Mm) : Option Mm :=
  chc (nI 0) (nI 0) (nI 6) 6 6 <|
  lt (cpy μ (v1 + 1) (ix (nI 0)) (v0 + 1) (ix (nI 0)) (ix (nI 6))) fun μ1 =>
  chc (nI 0) (nI 0) (nI 9) 9 9 <|
  lt (cpy μ1 (v1 + 2) (ix (nI 0)) (v0 + 2) (ix (nI 0)) (ix (nI 9))) fun μ2 =>
  bnd (Letters_copyFrom (v0 + 3) (v1 + 3) μ2) fun μ3 =>
  lt (sti μ3 v0 3 (μ3.1 v1 3)) fun μ4 =>
  lt (sti μ4 v0 4 (μ4.1 v1 4)) fun μ5 =>
  lt (sti μ5 v0 5 (μ5.1 v1 5)) fun μ6 =>
  lt (stl μ6 v0 6 (μ6.2 v1 6)) fun μ7 =>
  some μ7
def Picks_canTake_l2 (v0 : Nat) (v1 : Int32) (v2 : Int32) (μ : Mm) : Option (Int32 ⊕ (Unit ⊕ Unit)) :=
  if (μ.1 v0 1) ≤ v2 then
    some (.inr (Sum.inr ()))
  else
    chv v2 8 <|
    if (μ.1 (v0 + 1) (ix v2)) = v1 then
      some (.inr (Sum.inl ()))
    else
      some (.inl (v2 + (nI 1)))
def Picks_canTake (v0 : Nat) (v1 : Int32) (μ : Mm) : Option Int32 :=
  bni (iter 1000000 (fun s => Picks_canTake_l2 v0 v1 s μ) (nI 0)) fun x2 => 
  (Sum.elim (fun x2a =>
    some (nI 0))
    (fun x2b =>
      if (nI 8) ≤ (μ.1 v0 1) then
        some (nI 0)
      else
        some (nI 1))) x2
def Picks_take (v0 : Nat) (v1 : Int32) (μ : Mm) : Option Mm :=
  if (nI 8) ≤ (μ.1 v0 1) then
    some μ
  else
    chv (μ.1 v0 1) 8 <|
    lt (sti μ (v0 + 1) (ix (μ.1 v0 1)) v1) fun μ1 =>
    lt (sti μ1 v0 1 ((μ1.1 v0 1) + (nI 1))) fun μ2 =>
    some μ2
def Picks_keepBelow_j37 (v0 : Nat) (v1 : Int32) (v2 : Int32) (v3 : Int32) (μ : Mm) : Option ((Int32 × Int32 × Mm) ⊕ (Int32 × Mm)) :=
  some (.inl (v2, (v3 + (nI 1)), μ))
def Picks_keepBelow_l4 (v0 : Nat) (v1 : Int32) (v2 : Int32) (v3 : Int32) (μ : Mm) : Option ((Int32 × Int32 × Mm) ⊕ (Int32 × Mm)) :=
  if (μ.1 v0 1) ≤ v3 then
    some (.inr (v2, μ))
  else
    chv v3 8 <|
    if v1 ≤ (μ.1 (v0 + 1) (ix v3)) then
      Picks_keepBelow_j37 v0 v1 v2 v3 μ
    else
      chv v3 8 <|
      chv v2 8 <|
      lt (sti μ (v0 + 1) (ix v2) (μ.1 (v0 + 1) (ix v3))) fun μ1 =>
      Picks_keepBelow_j37 v0 v1 (v2 + (nI 1)) v3 μ1
def Picks_keepBelow (v0 : Nat) (v1 : Int32) (μ : Mm) : Option Mm :=
  bni (iter 1000000 (fun s => Picks_keepBelow_l4 v0 v1 s.1 s.2.1 s.2.2) ((nI 0), (nI 0), μ)) fun x4 =>
  lt (sti x4.2 v0 1 x4.1) fun μ2 =>
  some μ2
def Nine_hasBit (v0 : Int32) (v1 : Int32) : Option Int32 :=
  if ((v0 >>> (v1 &&& 31)) &&& (nI 1)) = (nI 1) then
    some (nI 1)
  else
    some (nI 0)
def JI_bitCount (v0 : Int32) : Option Int32 :=
  lt (v0 - ((ushr v0 (nI 1)) &&& (nI 1431655765))) fun u1 =>
  lt ((u1 &&& (nI 858993459)) + ((ushr u1 (nI 2)) &&& (nI 858993459))) fun u2 =>
  lt (((u2 + (ushr u2 (nI 4))) &&& (nI 252645135)) + (ushr ((u2 + (ushr u2 (nI 4))) &&& (nI 252645135)) (nI 8))) fun u3 =>
  some ((u3 + (ushr u3 (nI 16))) &&& (nI 63))
def Picks_nearness_j63 (v0 : Nat) (v1 : Nat) (v2 : Int32) (v3 : Int32) (v4 : Int32) (v5 : Int32) (μ : Mm) : Option ((Int32 × Int32) ⊕ Int32) :=
  some (.inl (v4, (v5 + (nI 1))))
def Picks_nearness_l7 (v0 : Nat) (v1 : Nat) (v2 : Int32) (v3 : Int32) (v4 : Int32) (v5 : Int32) (μ : Mm) : Option ((Int32 × Int32) ⊕ Int32) :=
  if (μ.1 v0 1) ≤ v5 then
    some (.inr v4)
  else
    bnd (Nine_hasBit v2 v5) fun r1 =>
    if r1 = 0 then
      Picks_nearness_j63 v0 v1 v2 v3 v4 v5 μ
    else
      chv v3 8 <|
      chv (μ.1 (v0 + 1) (ix v3)) 40 <|
      chv v5 8 <|
      chv (μ.1 (v0 + 1) (ix v5)) 40 <|
      lt ((μ.1 (v1 + 2) (ix (μ.1 (v0 + 1) (ix v3)))) ^^^ (μ.1 (v1 + 2) (ix (μ.1 (v0 + 1) (ix v5))))) fun u2 =>
      bnd (JI_bitCount u2) fun r3 =>
      Picks_nearness_j63 v0 v1 v2 v3 (jmin v4 r3) v5 μ
def Picks_nearness (v0 : Nat) (v1 : Nat) (v2 : Int32) (v3 : Int32) (μ : Mm) : Option Int32 :=
  bni (iter 1000000 (fun s => Picks_nearness_l7 v0 v1 v2 v3 s.1 s.2 μ) ((nI 10), (nI 0))) fun x7 =>
  some x7
def Picks_leastJoin_j74 (v0 : Nat) (v1 : Nat) (v2 : Int32) (v3 : Int32) (v4 : Int32) (v5 : Int32) (v6 : Int32) (v7 : Int32) (μ : Mm) : Option ((Int32 × Int32 × Int32) ⊕ (Int32 × Int32)) :=
  some (.inl (v5, v6, (v7 + (nI 1))))
def Picks_leastJoin_j57 (v0 : Nat) (v1 : Nat) (v2 : Int32) (v3 : Int32) (v4 : Int32) (v5 : Int32) (v6 : Int32) (v7 : Int32) (s0 : Int32) (μ : Mm) : Option ((Int32 × Int32 × Int32) ⊕ (Int32 × Int32)) :=
  if v6 ≤ s0 then
    Picks_leastJoin_j74 v0 v1 v2 v3 v4 v5 v6 v7 μ
  else
    Picks_leastJoin_j74 v0 v1 v2 v3 v4 v7 s0 v7 μ
def Picks_leastJoin_l26 (v0 : Nat) (v1 : Nat) (v2 : Int32) (v3 : Int32) (v4 : Int32) (v5 : Int32) (v6 : Int32) (v7 : Int32) (μ : Mm) : Option ((Int32 × Int32 × Int32) ⊕ (Int32 × Int32)) :=
  if (μ.1 v0 1) ≤ v7 then
    some (.inr (v5, v6))
  else
    bnd (Nine_hasBit v3 v7) fun r1 =>
    if r1 = 0 then
      bnd (Picks_nearness v0 v1 v3 v7 μ) fun r2 =>
      Picks_leastJoin_j57 v0 v1 v2 v3 v4 v5 v6 v7 r2 μ
    else
      Picks_leastJoin_j57 v0 v1 v2 v3 v4 v5 v6 v7 (nI 11) μ
def Picks_leastJoin_l7 (v0 : Nat) (v1 : Nat) (v2 : Int32) (v3 : Int32) (v4 : Int32) (μ : Mm) : Option ((Int32 × Int32 × Int32) ⊕ Int32) :=
  if (μ.1 v0 1) ≤ v4 then
    some (.inr v2)
  else
    bni (iter 1000000 (fun s => Picks_leastJoin_l26 v0 v1 v2 v3 v4 s.1 s.2.1 s.2.2 μ) ((nI 0), (nI 11), (nI 0))) fun x26 =>
    some (.inl ((v2 + x26.2), (v3 ||| ((nI 1) <<< (x26.1 &&& 31))), (v4 + (nI 1))))
def Picks_leastJoin (v0 : Nat) (v1 : Nat) (μ : Mm) : Option Int32 :=
  bni (iter 1000000 (fun s => Picks_leastJoin_l7 v0 v1 s.1 s.2.1 s.2.2 μ) ((nI 0), (nI 1), (nI 1))) fun x7 =>
  some x7
def Picks_copyFrom (v0 : Nat) (v1 : Nat) (μ : Mm) : Option Mm :=
  chc (nI 0) (nI 0) (μ.1 v1 1) 8 8 <|
  lt (cpy μ (v1 + 1) (ix (nI 0)) (v0 + 1) (ix (nI 0)) (ix (μ.1 v1 1))) fun μ1 =>
  lt (sti μ1 v0 1 (μ1.1 v1 1)) fun μ2 =>
  some μ2
def JA_fill_l5 (S : Sh) (v0 : Nat) (v1 : Int32) (v2 : Int32) (v3 : Int32) (μ : Mm) : Option ((Int32 × Mm) ⊕ Mm) :=
  if v3 ≤ v2 then
    some (.inr μ)
  else
    chv v2 (sL S v0) <|
    lt (sti μ v0 (ix v2) v1) fun μ1 =>
    some (.inl ((v2 + (nI 1)), μ1))
def JA_fill (S : Sh) (v0 : Nat) (v1 : Int32) (μ : Mm) : Option Mm :=
  bni (iter 1000000 (fun s => JA_fill_l5 S v0 v1 s.1 (nI (sL S v0)) s.2) ((nI 0), μ)) fun x5 =>
  some x5
def Post_clear (v0 : Nat) (μ : Mm) : Option Mm :=
  bnd (JA_fill SC (v0 + 1) (nI 1) μ) fun μ1 =>
  lt (sti μ1 v0 1 (nI 0)) fun μ2 =>
  some μ2
def Post_add (v0 : Nat) (v1 : Int32) (v2 : Int32) (v3 : Int32) (μ : Mm) : Option Mm :=
  chv ((v1 * (nI 6)) + v2) 36 <|
  lt (sti μ (v0 + 1) (ix ((v1 * (nI 6)) + v2)) v3) fun μ1 =>
  chv ((v2 * (nI 6)) + v1) 36 <|
  lt (sti μ1 (v0 + 1) (ix ((v2 * (nI 6)) + v1)) v3) fun μ2 =>
  lt (sti μ2 v0 1 ((μ2.1 v0 1) + (nI 1))) fun μ3 =>
  some μ3
def Post_daysBetween (v0 : Nat) (v1 : Int32) (v2 : Int32) (μ : Mm) : Option Int32 :=
  chv ((v1 * (nI 6)) + v2) 36 <|
  some (μ.1 (v0 + 1) (ix ((v1 * (nI 6)) + v2)))
def Post_copyFrom (v0 : Nat) (v1 : Nat) (μ : Mm) : Option Mm :=
  chc (nI 0) (nI 0) (nI 36) 36 36 <|
  lt (cpy μ (v1 + 1) (ix (nI 0)) (v0 + 1) (ix (nI 0)) (ix (nI 36))) fun μ1 =>
  lt (sti μ1 v0 1 (μ1.1 v1 1)) fun μ2 =>
  some μ2
def Reader_appendNumber_l3 (v0 : Nat) (v1 : Int32) (v2 : Int32) (μ : Mm) : Option ((Int32 × Mm) ⊕ Mm) :=
  if v2 < 0 then
    some (.inr μ)
  else
    chv (μ.1 v0 1) 400 <|
    lt (sti μ (v0 + 1) (ix (μ.1 v0 1)) ((ushr v1 v2) &&& (nI 255))) fun μ1 =>
    lt (sti μ1 v0 1 ((μ1.1 v0 1) + (nI 1))) fun μ2 =>
    some (.inl ((v2 + (-8)), μ2))
def Reader_appendNumber (v0 : Nat) (v1 : Int32) (μ : Mm) : Option Mm :=
  bni (iter 1000000 (fun s => Reader_appendNumber_l3 v0 v1 s.1 s.2) ((nI 24), μ)) fun x3 =>
  some x3
def Reader_append (v0 : Nat) (v1 : Int32) (v2 : Int32) (v3 : Int32) (v4 : Int32) (v5 : Int32) (μ : Mm) : Option (Int32 × Mm) :=
  if ((μ.1 v0 1) + (nI 20)) ≤ (nI 400) then
    bnd (Reader_appendNumber v0 v1 μ) fun μ1 =>
    bnd (Reader_appendNumber v0 v2 μ1) fun μ2 =>
    bnd (Reader_appendNumber v0 v3 μ2) fun μ3 =>
    bnd (Reader_appendNumber v0 v4 μ3) fun μ4 =>
    bnd (Reader_appendNumber v0 v5 μ4) fun μ5 =>
    some ((μ5.1 v0 1), μ5)
  else
    some ((-1), μ)
def Reader_isLetter_j24  : Option Int32 :=
  some (nI 1)
def Reader_isLetter_j12 (v0 : Int32) : Option Int32 :=
  if v0 < (nI 65) then
    some (nI 0)
  else
    if (nI 90) < v0 then
      some (nI 0)
    else
      Reader_isLetter_j24
def Reader_isLetter (v0 : Int32) : Option Int32 :=
  if v0 < (nI 97) then
    Reader_isLetter_j12 v0
  else
    if v0 ≤ (nI 122) then
      Reader_isLetter_j24
    else
      Reader_isLetter_j12 v0
def Reader_isDigit (v0 : Int32) : Option Int32 :=
  if v0 < (nI 48) then
    some (nI 0)
  else
    if (nI 57) < v0 then
      some (nI 0)
    else
      some (nI 1)
def Reader_endOfToken_l54 (v0 : Nat) (v2 : Int32) (μ : Mm) : Option (Int32 ⊕ Int32) :=
  if (μ.1 v0 1) ≤ v2 then
    some (.inr v2)
  else
    chv v2 400 <|
    bnd (Reader_isDigit (μ.1 (v0 + 1) (ix v2))) fun r3 =>
    if r3 = 0 then
      some (.inr v2)
    else
      some (.inl (v2 + (nI 1)))
def Reader_endOfToken_l16 (v0 : Nat) (v2 : Int32) (μ : Mm) : Option (Int32 ⊕ Int32) :=
  if (μ.1 v0 1) ≤ v2 then
    some (.inr v2)
  else
    chv v2 400 <|
    bnd (Reader_isLetter (μ.1 (v0 + 1) (ix v2))) fun r4 =>
    if r4 = 0 then
      some (.inr v2)
    else
      some (.inl (v2 + (nI 1)))
def Reader_endOfToken (v0 : Nat) (v1 : Int32) (μ : Mm) : Option Int32 :=
  chv v1 400 <|
  bnd (Reader_isLetter (μ.1 (v0 + 1) (ix v1))) fun r1 =>
  if r1 = 0 then
    chv v1 400 <|
    bnd (Reader_isDigit (μ.1 (v0 + 1) (ix v1))) fun r2 =>
    if r2 = 0 then
      some (v1 + (nI 1))
    else
      bni (iter 1000000 (fun s => Reader_endOfToken_l54 v0 s μ) (v1 + (nI 1))) fun x54 =>
      some x54
  else
    bni (iter 1000000 (fun s => Reader_endOfToken_l16 v0 s μ) (v1 + (nI 1))) fun x16 =>
    some x16
def Reader_isSpelled_l3 (v0 : Nat) (v1 : Int32) (v2 : Int32) (v3 : Int32) (v4 : Int32) (μ : Mm) : Option (Int32 ⊕ (Unit ⊕ Unit)) :=
  if v3 ≤ (v2 + v4) then
    some (.inr (Sum.inr ()))
  else
    chv (v2 + v4) 400 <|
    chv (v1 + v4) 96 <|
    if (μ.1 (v0 + 1) (ix (v2 + v4))) = (wordsBytes.getD (ix (v1 + v4)) 0) then
      some (.inl (v4 + (nI 1)))
    else
      some (.inr (Sum.inl ()))
def Reader_isSpelled (v0 : Nat) (v1 : Int32) (v2 : Int32) (v3 : Int32) (μ : Mm) : Option Int32 :=
  bni (iter 1000000 (fun s => Reader_isSpelled_l3 v0 v1 v2 v3 s μ) (nI 0)) fun x3 => 
  (Sum.elim (fun x3a =>
    some (nI 0))
    (fun x3b =>
      some (nI 1))) x3
def Reader_wordBetween_j65 (v0 : Nat) (v1 : Int32) (v2 : Int32) (v3 : Int32) (v4 : Int32) (v5 : Int32) (μ : Mm) : Option ((Int32 × Int32 × Int32) ⊕ (Int32 ⊕ Unit)) :=
  some (.inl (v3, v4, (v5 + (nI 1))))
def Reader_wordBetween_j56 (v0 : Nat) (v1 : Int32) (v2 : Int32) (v3 : Int32) (v5 : Int32) (μ : Mm) : Option ((Int32 × Int32 × Int32) ⊕ (Int32 ⊕ Unit)) :=
  Reader_wordBetween_j65 v0 v1 v2 (v3 + (nI 1)) (v5 + (nI 1)) v5 μ
def Reader_wordBetween_l10 (v0 : Nat) (v1 : Int32) (v2 : Int32) (v3 : Int32) (v4 : Int32) (v5 : Int32) (μ : Mm) : Option ((Int32 × Int32 × Int32) ⊕ (Int32 ⊕ Unit)) :=
  if 96 ≤ v5 then
    some (.inr (Sum.inr ()))
  else
    chv v5 96 <|
    if (wordsBytes.getD (ix v5) 0) = (nI 32) then
      if (v5 - v4) = (v2 - v1) then
        bnd (Reader_isSpelled v0 v4 v1 v2 μ) fun r1 =>
        if r1 = 0 then
          Reader_wordBetween_j56 v0 v1 v2 v3 v5 μ
        else
          some (.inr (Sum.inl v3))
      else
        Reader_wordBetween_j56 v0 v1 v2 v3 v5 μ
    else
      Reader_wordBetween_j65 v0 v1 v2 v3 v4 v5 μ
def Reader_wordBetween (v0 : Nat) (v1 : Int32) (v2 : Int32) (μ : Mm) : Option Int32 :=
  bni (iter 1000000 (fun s => Reader_wordBetween_l10 v0 v1 v2 s.1 s.2.1 s.2.2 μ) ((nI 300), (nI 0), (nI 0))) fun x10 => 
  (Sum.elim (fun x10a =>
    some x10a)
    (fun x10b =>
      some (nI 258))) x10
def Reader_kindOfToken (v0 : Nat) (v1 : Int32) (v2 : Int32) (μ : Mm) : Option Int32 :=
  chv v1 400 <|
  bnd (Reader_isLetter (μ.1 (v0 + 1) (ix v1))) fun r1 =>
  if r1 = 0 then
    chv v1 400 <|
    bnd (Reader_isDigit (μ.1 (v0 + 1) (ix v1))) fun r2 =>
    if r2 = 0 then
      chv v1 400 <|
      some (μ.1 (v0 + 1) (ix v1))
    else
      if (nI 4) < (v2 - v1) then
        some (nI 258)
      else
        some (nI 257)
  else
    bnd (Reader_wordBetween v0 v1 v2 μ) fun r3 =>
    some r3
def Reader_valueOfDigits_l5 (v0 : Nat) (v2 : Int32) (v3 : Int32) (v4 : Int32) (μ : Mm) : Option ((Int32 × Int32) ⊕ Int32) :=
  if v2 ≤ v4 then
    some (.inr v3)
  else
    chv v4 400 <|
    lt (((v3 * (nI 10)) + (μ.1 (v0 + 1) (ix v4))) - (nI 48)) fun u1 =>
    some (.inl (u1, (v4 + (nI 1))))
def Reader_valueOfDigits (v0 : Nat) (v1 : Int32) (v2 : Int32) (μ : Mm) : Option Int32 :=
  bni (iter 1000000 (fun s => Reader_valueOfDigits_l5 v0 v2 s.1 s.2 μ) ((nI 0), v1)) fun x5 =>
  some x5
def Reader_findTokens_j122 (v0 : Nat) (v2 : Int32) (v3 : Int32) (μ : Mm) : Option ((Int32 × Int32 × Mm) ⊕ Mm) :=
  some (.inl (v3, (v2 + (nI 1)), μ))
def Reader_findTokens_j101 (v0 : Nat) (v1 : Int32) (v2 : Int32) (v3 : Int32) (s0 : Nat) (s1 : Int32) (s2 : Int32) (μ : Mm) : Option ((Int32 × Int32 × Mm) ⊕ Mm) :=
  chv s1 (sL SC s0) <|
  lt (sti μ s0 (ix s1) s2) fun μ5 =>
  chv (μ5.1 v0 7) 401 <|
  lt (sti μ5 (v0 + 4) (ix (μ5.1 v0 7)) v1) fun μ6 =>
  lt (sti μ6 v0 7 ((μ6.1 v0 7) + (nI 1))) fun μ7 =>
  Reader_findTokens_j122 v0 v2 v3 μ7
def Reader_findTokens_l9 (v0 : Nat) (v1 : Int32) (v2 : Int32) (μ : Mm) : Option ((Int32 × Int32 × Mm) ⊕ Mm) :=
  if (μ.1 v0 1) ≤ v2 then
    some (.inr μ)
  else
    if (μ.1 v0 1) ≤ v1 then
      some (.inr μ)
    else
      bnd (Reader_endOfToken v0 v1 μ) fun r2 =>
      chv v1 400 <|
      if (μ.1 (v0 + 1) (ix v1)) = (nI 32) then
        Reader_findTokens_j122 v0 v2 r2 μ
      else
        chv v1 400 <|
        if (μ.1 (v0 + 1) (ix v1)) = (nI 10) then
          Reader_findTokens_j122 v0 v2 r2 μ
        else
          bnd (Reader_kindOfToken v0 v1 r2 μ) fun r3 =>
          chv (μ.1 v0 7) 401 <|
          lt (sti μ (v0 + 2) (ix (μ.1 v0 7)) r3) fun μ4 =>
          chv (μ4.1 v0 7) 401 <|
          if (μ4.1 (v0 + 2) (ix (μ4.1 v0 7))) = (nI 257) then
            bnd (Reader_valueOfDigits v0 v1 r2 μ4) fun r8 =>
            Reader_findTokens_j101 v0 v1 v2 r2 (v0 + 3) (μ4.1 v0 7) r8 μ4
          else
            Reader_findTokens_j101 v0 v1 v2 r2 (v0 + 3) (μ4.1 v0 7) (nI 0) μ4
def Reader_findTokens_j130 (v0 : Nat) (μ : Mm) : Option Mm :=
  chv (μ.1 v0 7) 401 <|
  lt (sti μ (v0 + 2) (ix (μ.1 v0 7)) (nI 256)) fun μ9 =>
  chv (μ9.1 v0 7) 401 <|
  lt (sti μ9 (v0 + 3) (ix (μ9.1 v0 7)) (nI 0)) fun μ10 =>
  chv (μ10.1 v0 7) 401 <|
  lt (sti μ10 (v0 + 4) (ix (μ10.1 v0 7)) (μ10.1 v0 1)) fun μ11 =>
  lt (sti μ11 v0 7 ((μ11.1 v0 7) + (nI 1))) fun μ12 =>
  some μ12
def Reader_findTokens (v0 : Nat) (μ : Mm) : Option Mm :=
  lt (sti μ v0 7 (nI 0)) fun μ1 =>
  bni (iter 1000000 (fun s => Reader_findTokens_l9 v0 s.1 s.2.1 s.2.2) ((nI 0), (nI 0), μ1)) fun x9 =>
  Reader_findTokens_j130 v0 x9
def Reader_begin (v0 : Nat) (μ : Mm) : Option Mm :=
  lt (sti μ v0 2 (nI 0)) fun μ1 =>
  lt (sti μ1 v0 3 (-1)) fun μ2 =>
  lt (sti μ2 v0 8 (nI 0)) fun μ3 =>
  bnd (Reader_findTokens v0 μ3) fun μ4 =>
  some μ4
def Reader_fail (v0 : Nat) (v1 : Int32) (μ : Mm) : Option Mm :=
  if (μ.1 v0 2) = 0 then
    lt (sti μ v0 2 v1) fun μ1 =>
    chv (μ1.1 v0 8) 401 <|
    lt (sti μ1 v0 3 (μ1.1 (v0 + 4) (ix (μ1.1 v0 8)))) fun μ2 =>
    some μ2
  else
    some μ
def Reader_takes (v0 : Nat) (v1 : Int32) (μ : Mm) : Option (Int32 × Mm) :=
  if (μ.1 v0 2) = 0 then
    chv (μ.1 v0 8) 401 <|
    if (μ.1 (v0 + 2) (ix (μ.1 v0 8))) = v1 then
      lt (sti μ v0 8 ((μ.1 v0 8) + (nI 1))) fun μ1 =>
      some ((nI 1), μ1)
    else
      some ((nI 0), μ)
  else
    some ((nI 0), μ)
def Reader_take (v0 : Nat) (v1 : Int32) (μ : Mm) : Option Mm :=
  bnd2 (Reader_takes v0 v1 μ) fun r2 μ1 =>
  if r2 = 0 then
    bnd (Reader_fail v0 (nI 1) μ1) fun μ3 =>
    some μ3
  else
    some μ1
def Reader_readUnit_j103 (v0 : Nat) (μ : Mm) : Option Mm :=
  bnd (Reader_fail v0 (nI 1) μ) fun μ1 =>
  some μ1
def Reader_readUnit (v0 : Nat) (μ : Mm) : Option Mm :=
  chv (μ.1 v0 8) 401 <|
  if (μ.1 v0 2) = 0 then
    chv (μ.1 v0 8) 401 <|
    if (μ.1 (v0 + 2) (ix (μ.1 v0 8))) = (nI 257) then
      chv (μ.1 v0 8) 401 <|
      bnd (Law_add (v0 + 5) (μ.1 (v0 + 3) (ix (μ.1 v0 8))) μ) fun μ4 =>
      lt (sti μ4 v0 8 ((μ4.1 v0 8) + (nI 1))) fun μ5 =>
      some μ5
    else
      if ((μ.1 (v0 + 2) (ix (μ.1 v0 8))) - (nI 309)) < 0 then
        Reader_readUnit_j103 v0 μ
      else
        if (μ.1 v0 11) ≤ ((μ.1 (v0 + 2) (ix (μ.1 v0 8))) - (nI 309)) then
          Reader_readUnit_j103 v0 μ
        else
          bnd (Law_add (v0 + 5) ((nI 10000) + ((μ.1 (v0 + 2) (ix (μ.1 v0 8))) - (nI 309))) μ) fun μ2 =>
          lt (sti μ2 v0 8 ((μ2.1 v0 8) + (nI 1))) fun μ3 =>
          some μ3
  else
    some μ
def Reader_addOperation (v0 : Nat) (v1 : Int32) (μ : Mm) : Option Mm :=
  bnd (Law_add (v0 + 5) ((nI 20000) + v1) μ) fun μ1 =>
  some μ1
def Reader_takeNumber_j37 (v0 : Nat) (v1 : Int32) (μ : Mm) : Option (Int32 × Mm) :=
  lt (sti μ v0 8 ((μ.1 v0 8) - (nI 1))) fun μ3 =>
  bnd (Reader_fail v0 (nI 2) μ3) fun μ4 =>
  some (v1, μ4)
def Reader_takeNumber (v0 : Nat) (v1 : Int32) (v2 : Int32) (μ : Mm) : Option (Int32 × Mm) :=
  chv (μ.1 v0 8) 401 <|
  bnd2 (Reader_takes v0 (nI 257) μ) fun r2 μ1 =>
  if r2 = 0 then
    bnd (Reader_fail v0 (nI 1) μ1) fun μ5 =>
    some (v1, μ5)
  else
    if (μ.1 (v0 + 3) (ix (μ.1 v0 8))) < v1 then
      Reader_takeNumber_j37 v0 v1 μ1
    else
      if (μ.1 (v0 + 3) (ix (μ.1 v0 8))) ≤ v2 then
        some ((μ.1 (v0 + 3) (ix (μ.1 v0 8))), μ1)
      else
        Reader_takeNumber_j37 v0 v1 μ1
def Reader_readProduct_j101 (v0 : Nat) (v1 : Int32) (μ : Mm) : Option ((Int32 × Mm) ⊕ Mm) :=
  some (.inl ((v1 + (nI 1)), μ))
def Reader_readProduct_j49 (v0 : Nat) (v1 : Int32) (μ : Mm) : Option ((Int32 × Mm) ⊕ Mm) :=
  bnd2 (Reader_takes v0 (nI 42) μ) fun r3 μ2 =>
  if r3 = 0 then
    bnd2 (Reader_takes v0 (nI 47) μ2) fun r5 μ4 =>
    if r5 = 0 then
      Reader_readProduct_j101 v0 v1 μ4
    else
      bnd2 (Reader_takeNumber v0 (nI 1) (nI 9999) μ4) fun r7 μ6 =>
      bnd (Law_add (v0 + 5) r7 μ6) fun μ8 =>
      bnd (Reader_addOperation v0 (nI 47) μ8) fun μ9 =>
      Reader_readProduct_j101 v0 v1 μ9
  else
    bnd (Reader_readUnit v0 μ2) fun μ10 =>
    bnd (Reader_addOperation v0 (nI 42) μ10) fun μ11 =>
    Reader_readProduct_j101 v0 v1 μ11
def Reader_readProduct_l6 (v0 : Nat) (v1 : Int32) (μ : Mm) : Option ((Int32 × Mm) ⊕ Mm) :=
  if (μ.1 v0 7) ≤ v1 then
    some (.inr μ)
  else
    if (μ.1 v0 2) = 0 then
      chv (μ.1 v0 8) 401 <|
      if (μ.1 (v0 + 2) (ix (μ.1 v0 8))) = (nI 42) then
        Reader_readProduct_j49 v0 v1 μ
      else
        chv (μ.1 v0 8) 401 <|
        if (μ.1 (v0 + 2) (ix (μ.1 v0 8))) = (nI 47) then
          Reader_readProduct_j49 v0 v1 μ
        else
          some (.inr μ)
    else
      some (.inr μ)
def Reader_readProduct (v0 : Nat) (μ : Mm) : Option Mm :=
  bnd (Reader_readUnit v0 μ) fun μ1 =>
  bni (iter 1000000 (fun s => Reader_readProduct_l6 v0 s.1 s.2) ((nI 0), μ1)) fun x6 =>
  some x6
def Reader_readSum_j49 (v0 : Nat) (v1 : Int32) (μ : Mm) : Option ((Int32 × Mm) ⊕ Mm) :=
  chv (μ.1 v0 8) 401 <|
  lt (sti μ v0 8 ((μ.1 v0 8) + (nI 1))) fun μ2 =>
  bnd (Reader_readProduct v0 μ2) fun μ3 =>
  bnd (Reader_addOperation v0 (μ.1 (v0 + 2) (ix (μ.1 v0 8))) μ3) fun μ4 =>
  some (.inl ((v1 + (nI 1)), μ4))
def Reader_readSum_l6 (v0 : Nat) (v1 : Int32) (μ : Mm) : Option ((Int32 × Mm) ⊕ Mm) :=
  if (μ.1 v0 7) ≤ v1 then
    some (.inr μ)
  else
    if (μ.1 v0 2) = 0 then
      chv (μ.1 v0 8) 401 <|
      if (μ.1 (v0 + 2) (ix (μ.1 v0 8))) = (nI 43) then
        Reader_readSum_j49 v0 v1 μ
      else
        chv (μ.1 v0 8) 401 <|
        if (μ.1 (v0 + 2) (ix (μ.1 v0 8))) = (nI 45) then
          Reader_readSum_j49 v0 v1 μ
        else
          some (.inr μ)
    else
      some (.inr μ)
def Reader_readSum (v0 : Nat) (μ : Mm) : Option Mm :=
  bnd (Reader_readProduct v0 μ) fun μ1 =>
  bni (iter 1000000 (fun s => Reader_readSum_l6 v0 s.1 s.2) ((nI 0), μ1)) fun x6 =>
  some x6
def Reader_readTest_j158 (rT rC : Nat → Int32 → Mm → Option Mm) (v0 : Nat) (v3 : Int32) (μ : Mm) : Option Mm :=
  bnd (Reader_readSum v0 μ) fun μ8 =>
  bnd (Reader_addOperation v0 v3 μ8) fun μ9 =>
  some μ9
def Reader_readTest_j60 (rT rC : Nat → Int32 → Mm → Option Mm) (v0 : Nat) (v1 : Int32) (μ : Mm) : Option Mm :=
  bnd2 (Reader_takes v0 (nI 305) μ) fun r2 μ1 =>
  if r2 = 0 then
    bnd2 (Reader_takes v0 (nI 40) μ1) fun r4 μ3 =>
    if r4 = 0 then
      bnd (Reader_readSum v0 μ3) fun μ5 =>
      chv (μ5.1 v0 8) 401 <|
      bnd2 (Reader_takes v0 (nI 60) μ5) fun r7 μ6 =>
      if r7 = 0 then
        bnd2 (Reader_takes v0 (nI 61) μ6) fun r11 μ10 =>
        if r11 = 0 then
          bnd2 (Reader_takes v0 (nI 62) μ10) fun r13 μ12 =>
          if r13 = 0 then
            bnd (Reader_fail v0 (nI 1) μ12) fun μ14 =>
            Reader_readTest_j158 rT rC v0 (μ5.1 (v0 + 2) (ix (μ5.1 v0 8))) μ14
          else
            Reader_readTest_j158 rT rC v0 (μ5.1 (v0 + 2) (ix (μ5.1 v0 8))) μ12
        else
          Reader_readTest_j158 rT rC v0 (μ5.1 (v0 + 2) (ix (μ5.1 v0 8))) μ10
      else
        Reader_readTest_j158 rT rC v0 (μ5.1 (v0 + 2) (ix (μ5.1 v0 8))) μ6
    else
      bnd (rC v0 (v1 + (nI 1)) μ3) fun μ15 =>
      bnd (Reader_take v0 (nI 41) μ15) fun μ16 =>
      some μ16
  else
    bnd (rT v0 (v1 + (nI 1)) μ1) fun μ17 =>
    bnd (Reader_addOperation v0 (nI 305) μ17) fun μ18 =>
    some μ18
def Reader_readTest_j41 (rT rC : Nat → Int32 → Mm → Option Mm) (v0 : Nat) (v1 : Int32) (s0 : Int32) (μ : Mm) : Option Mm :=
  if s0 = 0 then
    Reader_readTest_j60 rT rC v0 v1 μ
  else
    if v1 < (nI 8) then
      Reader_readTest_j60 rT rC v0 v1 μ
    else
      bnd (Reader_fail v0 (nI 3) μ) fun μ19 =>
      some μ19
def Reader_readTest_j40 (rT rC : Nat → Int32 → Mm → Option Mm) (v0 : Nat) (v1 : Int32) (μ : Mm) : Option Mm :=
  Reader_readTest_j41 rT rC v0 v1 (nI 0) μ
def Reader_readTest_j36 (rT rC : Nat → Int32 → Mm → Option Mm) (v0 : Nat) (v1 : Int32) (μ : Mm) : Option Mm :=
  Reader_readTest_j41 rT rC v0 v1 (nI 1) μ
def Reader_readTest_ (rT rC : Nat → Int32 → Mm → Option Mm) (v0 : Nat) (v1 : Int32) (μ : Mm) : Option Mm :=
  if (μ.1 v0 2) = 0 then
    chv (μ.1 v0 8) 401 <|
    if (μ.1 (v0 + 2) (ix (μ.1 v0 8))) = (nI 305) then
      Reader_readTest_j36 rT rC v0 v1 μ
    else
      chv (μ.1 v0 8) 401 <|
      if (μ.1 (v0 + 2) (ix (μ.1 v0 8))) = (nI 40) then
        Reader_readTest_j36 rT rC v0 v1 μ
      else
        Reader_readTest_j40 rT rC v0 v1 μ
  else
    Reader_readTest_j40 rT rC v0 v1 μ
def Reader_readChoice_j107 (rT rC : Nat → Int32 → Mm → Option Mm) (v0 : Nat) (v1 : Int32) (v2 : Int32) (v3 : Int32) (μ : Mm) : Option ((Int32 × Int32 × Mm) ⊕ (Int32 × Mm)) :=
  some (.inl (v2, (v3 + (nI 1)), μ))
def Reader_readChoice_j100 (rT rC : Nat → Int32 → Mm → Option Mm) (v0 : Nat) (v1 : Int32) (v3 : Int32) (μ : Mm) : Option ((Int32 × Int32 × Mm) ⊕ (Int32 × Mm)) :=
  bnd (rT v0 v1 μ) fun μ6 =>
  Reader_readChoice_j107 rT rC v0 v1 (nI 1) v3 μ6
def Reader_readChoice_j54 (rT rC : Nat → Int32 → Mm → Option Mm) (v0 : Nat) (v1 : Int32) (v2 : Int32) (v3 : Int32) (μ : Mm) : Option ((Int32 × Int32 × Mm) ⊕ (Int32 × Mm)) :=
  bnd2 (Reader_takes v0 (nI 304) μ) fun r3 μ2 =>
  if r3 = 0 then
    bnd2 (Reader_takes v0 (nI 303) μ2) fun r5 μ4 =>
    if r5 = 0 then
      Reader_readChoice_j107 rT rC v0 v1 v2 v3 μ4
    else
      if v2 = 0 then
        Reader_readChoice_j100 rT rC v0 v1 v3 μ4
      else
        bnd (Reader_addOperation v0 (nI 303) μ4) fun μ7 =>
        Reader_readChoice_j100 rT rC v0 v1 v3 μ7
  else
    bnd (rT v0 v1 μ2) fun μ8 =>
    bnd (Reader_addOperation v0 (nI 304) μ8) fun μ9 =>
    Reader_readChoice_j107 rT rC v0 v1 v2 v3 μ9
def Reader_readChoice_l9 (rT rC : Nat → Int32 → Mm → Option Mm) (v0 : Nat) (v1 : Int32) (v2 : Int32) (v3 : Int32) (μ : Mm) : Option ((Int32 × Int32 × Mm) ⊕ (Int32 × Mm)) :=
  if (μ.1 v0 7) ≤ v3 then
    some (.inr (v2, μ))
  else
    if (μ.1 v0 2) = 0 then
      chv (μ.1 v0 8) 401 <|
      if (μ.1 (v0 + 2) (ix (μ.1 v0 8))) = (nI 303) then
        Reader_readChoice_j54 rT rC v0 v1 v2 v3 μ
      else
        chv (μ.1 v0 8) 401 <|
        if (μ.1 (v0 + 2) (ix (μ.1 v0 8))) = (nI 304) then
          Reader_readChoice_j54 rT rC v0 v1 v2 v3 μ
        else
          some (.inr (v2, μ))
    else
      some (.inr (v2, μ))
def Reader_readChoice_j113 (rT rC : Nat → Int32 → Mm → Option Mm) (v0 : Nat) (v2 : Int32) (μ : Mm) : Option Mm :=
  if v2 = 0 then
    some μ
  else
    bnd (Reader_addOperation v0 (nI 303) μ) fun μ10 =>
    some μ10
def Reader_readChoice_ (rT rC : Nat → Int32 → Mm → Option Mm) (v0 : Nat) (v1 : Int32) (μ : Mm) : Option Mm :=
  bnd (rT v0 v1 μ) fun μ1 =>
  bni (iter 1000000 (fun s => Reader_readChoice_l9 rT rC v0 v1 s.1 s.2.1 s.2.2) ((nI 0), (nI 0), μ1)) fun x9 =>
  Reader_readChoice_j113 rT rC v0 x9.1 x9.2
def Reader_TC : Nat → (Nat → Int32 → Mm → Option Mm) × (Nat → Int32 → Mm → Option Mm)
  | 0 => (fun _ _ _ => none, fun _ _ _ => none)
  | n + 1 => (Reader_readTest_ (Reader_TC n).1 (Reader_TC n).2, Reader_readChoice_ (Reader_TC n).1 (Reader_TC n).2)
def Reader_readTestF (n : Nat) : Nat → Int32 → Mm → Option Mm := (Reader_TC n).1
def Reader_readChoiceF (n : Nat) : Nat → Int32 → Mm → Option Mm := (Reader_TC n).2
def Reader_readLaw_j118 (v0 : Nat) (v1 : Nat) (v2 : Int32) (v4 : Int32) (v5 : Int32) (v6 : Int32) (μ : Mm) : Option ((Int32 × Mm) ⊕ Mm) :=
  bnd (Reader_take v0 (nI 59) μ) fun μ7 =>
  bnd (Law_addLine (v0 + 5) v5 v6 μ7) fun μ8 =>
  some (.inl ((v4 + (nI 1)), μ8))
def Reader_readLaw_j76 (v0 : Nat) (v1 : Nat) (v2 : Int32) (v4 : Int32) (μ : Mm) : Option ((Int32 × Mm) ⊕ Mm) :=
  bnd (Reader_take v0 v2 μ) fun μ3 =>
  bnd (Reader_readSum v0 μ3) fun μ4 =>
  bnd2 (Reader_takes v0 (nI 302) μ4) fun r6 μ5 =>
  if r6 = 0 then
    Reader_readLaw_j118 v0 v1 v2 v4 (μ3.1 (v0 + 5) 5) (μ4.1 (v0 + 5) 5) μ5
  else
    bnd ((Reader_readChoiceF 40) v0 (nI 0) μ5) fun μ9 =>
    Reader_readLaw_j118 v0 v1 v2 v4 (μ3.1 (v0 + 5) 5) (μ4.1 (v0 + 5) 5) μ9
def Reader_readLaw_l15 (v0 : Nat) (v1 : Nat) (v2 : Int32) (v4 : Int32) (μ : Mm) : Option ((Int32 × Mm) ⊕ Mm) :=
  if (μ.1 v0 7) ≤ v4 then
    some (.inr μ)
  else
    if (μ.1 v0 2) = 0 then
      chv (μ.1 v0 8) 401 <|
      if (μ.1 (v0 + 2) (ix (μ.1 v0 8))) = (nI 256) then
        some (.inr μ)
      else
        chv (μ.1 v0 8) 401 <|
        if (μ.1 (v0 + 2) (ix (μ.1 v0 8))) = v2 then
          if (μ.1 (v0 + 5) 6) = (nI 16) then
            bnd (Reader_fail v0 (nI 3) μ) fun μ10 =>
            Reader_readLaw_j76 v0 v1 v2 v4 μ10
          else
            Reader_readLaw_j76 v0 v1 v2 v4 μ
        else
          Reader_readLaw_j76 v0 v1 v2 v4 μ
    else
      some (.inr μ)
def Reader_readLaw_j141 (v0 : Nat) (v1 : Nat) (μ : Mm) : Option (Int32 × Mm) :=
  if (μ.1 v0 2) = 0 then
    bnd (Law_copyFrom v1 (v0 + 5) μ) fun μ11 =>
    some ((μ11.1 v1 6), μ11)
  else
    some ((-1), μ)
def Reader_readLaw (v0 : Nat) (v1 : Nat) (v2 : Int32) (v3 : Int32) (μ : Mm) : Option (Int32 × Mm) :=
  bnd (Law_clear (v0 + 5) μ) fun μ1 =>
  lt (sti μ1 v0 11 v3) fun μ2 =>
  bni (iter 1000000 (fun s => Reader_readLaw_l15 v0 v1 v2 s.1 s.2) ((nI 0), μ2)) fun x15 =>
  Reader_readLaw_j141 v0 v1 x15
def Reader_readPost_l9 (v0 : Nat) (v1 : Nat) (v2 : Int32) (μ : Mm) : Option ((Int32 × Mm) ⊕ Mm) :=
  if (μ.1 v0 7) ≤ v2 then
    some (.inr μ)
  else
    if (μ.1 v0 2) = 0 then
      chv (μ.1 v0 8) 401 <|
      if (μ.1 (v0 + 2) (ix (μ.1 v0 8))) = (nI 256) then
        some (.inr μ)
      else
        bnd (Reader_take v0 (nI 306) μ) fun μ2 =>
        bnd2 (Reader_takeNumber v0 (nI 0) (nI 5) μ2) fun r4 μ3 =>
        bnd (Reader_take v0 (nI 307) μ3) fun μ5 =>
        bnd2 (Reader_takeNumber v0 (nI 0) (nI 5) μ5) fun r7 μ6 =>
        bnd (Reader_take v0 (nI 308) μ6) fun μ8 =>
        bnd2 (Reader_takeNumber v0 (nI 1) (nI 20) μ8) fun r10 μ9 =>
        bnd (Reader_take v0 (nI 59) μ9) fun μ11 =>
        bnd (Post_add (v0 + 11) r4 r7 r10 μ11) fun μ12 =>
        some (.inl ((v2 + (nI 1)), μ12))
    else
      some (.inr μ)
def Reader_readPost_j108 (v0 : Nat) (v1 : Nat) (μ : Mm) : Option (Int32 × Mm) :=
  if (μ.1 v0 2) = 0 then
    bnd (Post_copyFrom v1 (v0 + 11) μ) fun μ13 =>
    some ((μ13.1 v1 1), μ13)
  else
    some ((-1), μ)
def Reader_readPost (v0 : Nat) (v1 : Nat) (μ : Mm) : Option (Int32 × Mm) :=
  bnd (Post_clear (v0 + 11) μ) fun μ1 =>
  bni (iter 1000000 (fun s => Reader_readPost_l9 v0 v1 s.1 s.2) ((nI 0), μ1)) fun x9 =>
  Reader_readPost_j108 v0 v1 x9
def Texts_copyFrom (v0 : Nat) (v1 : Nat) (μ : Mm) : Option Mm :=
  bnd (Law_copyFrom (v0 + 1) (v1 + 1) μ) fun μ1 =>
  bnd (Law_copyFrom (v0 + 7) (v1 + 7) μ1) fun μ2 =>
  bnd (Post_copyFrom (v0 + 13) (v1 + 13) μ2) fun μ3 =>
  some μ3
def Versions_has (v0 : Nat) (v1 : Int32) (μ : Mm) : Option Int32 :=
  if v1 < 0 then
    some (nI 0)
  else
    if (μ.1 v0 4) ≤ v1 then
      some (nI 0)
    else
      some (nI 1)
def Versions_isFull (v0 : Nat) (μ : Mm) : Option Int32 :=
  if (μ.1 v0 4) < (nI 40) then
    some (nI 0)
  else
    some (nI 1)
def Versions_add (v0 : Nat) (v1 : Int32) (v2 : Int32) (v3 : Int32) (v4 : Int32) (μ : Mm) : Option (Int32 × Mm) :=
  bnd (Versions_isFull v0 μ) fun r1 =>
  if r1 = 0 then
    chv (μ.1 v0 4) 40 <|
    lt (sti μ (v0 + 1) (ix (μ.1 v0 4)) v1) fun μ2 =>
    chv (μ2.1 v0 4) 40 <|
    lt (sti μ2 (v0 + 2) (ix (μ2.1 v0 4)) v2) fun μ3 =>
    chv (μ3.1 v0 4) 40 <|
    lt (sti μ3 (v0 + 3) (ix (μ3.1 v0 4)) v3) fun μ4 =>
    chv (μ4.1 v0 4) 40 <|
    lt (sti μ4 (v0 + 4) (ix (μ4.1 v0 4)) v4) fun μ5 =>
    lt (sti μ5 v0 4 ((μ5.1 v0 4) + (nI 1))) fun μ6 =>
    some (((μ6.1 v0 4) - (nI 1)), μ6)
  else
    some ((-1), μ)
def JL_bitCount (v0 : Int64) : Option Int32 :=
  lt (v0 - ((lushr v0 (nI 1)) &&& 6148914691236517205)) fun u1 =>
  lt ((u1 &&& 3689348814741910323) + ((lushr u1 (nI 2)) &&& 3689348814741910323)) fun u2 =>
  lt ((u2 + (lushr u2 (nI 4))) &&& 1085102592571150095) fun u3 =>
  lt ((u3 + (lushr u3 (nI 8))) + (lushr (u3 + (lushr u3 (nI 8))) (nI 16))) fun u4 =>
  some ((Int64.toInt32 (u4 + (lushr u4 (nI 32)))) &&& (nI 127))
def Versions_countChildren_j52 (v0 : Nat) (v2 : Int64) (v4 : Int32) (μ : Mm) : Option ((Int64 × Int32) ⊕ Int64) :=
  some (.inl (v2, (v4 + (nI 1))))
def Versions_countChildren_l9 (v0 : Nat) (v2 : Int64) (v4 : Int32) (μ : Mm) : Option ((Int64 × Int32) ⊕ Int64) :=
  if (μ.1 v0 4) ≤ v4 then
    some (.inr v2)
  else
    chv v4 40 <|
    if (μ.1 (v0 + 3) (ix v4)) = (-1) then
      Versions_countChildren_j52 v0 v2 v4 μ
    else
      chv v4 40 <|
      if (lg_cmp ((v2 >>> (Int32.toInt64 (μ.1 (v0 + 3) (ix v4)) &&& 63)) &&& 1) 1) = 0 then
        lt (v2 ||| ((1 : Int64) <<< (Int32.toInt64 v4 &&& 63))) fun u1 =>
        Versions_countChildren_j52 v0 u1 v4 μ
      else
        Versions_countChildren_j52 v0 v2 v4 μ
def Versions_countChildren (v0 : Nat) (v1 : Int32) (μ : Mm) : Option Int32 :=
  bni (iter 1000000 (fun s => Versions_countChildren_l9 v0 s.1 s.2 μ) (((1 : Int64) <<< (Int32.toInt64 v1 &&& 63)), (v1 + (nI 1)))) fun x9 =>
  bnd (JL_bitCount x9) fun r2 =>
  some (r2 - (nI 1))
def Versions_commonForebear_j46 (v0 : Nat) (v3 : Int32) (v4 : Int32) (v5 : Int32) (μ : Mm) : Option ((Int32 × Int32 × Int32) ⊕ Int32) :=
  some (.inl (v3, v4, (v5 + (nI 1))))
def Versions_commonForebear_l8 (v0 : Nat) (v3 : Int32) (v4 : Int32) (v5 : Int32) (μ : Mm) : Option ((Int32 × Int32 × Int32) ⊕ Int32) :=
  if (nI 80) ≤ v5 then
    some (.inr v3)
  else
    if v3 = v4 then
      some (.inr v3)
    else
      if v3 ≤ v4 then
        chv v4 40 <|
        Versions_commonForebear_j46 v0 v3 (μ.1 (v0 + 3) (ix v4)) v5 μ
      else
        chv v3 40 <|
        Versions_commonForebear_j46 v0 (μ.1 (v0 + 3) (ix v3)) v4 v5 μ
def Versions_commonForebear (v0 : Nat) (v1 : Int32) (v2 : Int32) (μ : Mm) : Option Int32 :=
  bni (iter 1000000 (fun s => Versions_commonForebear_l8 v0 s.1 s.2.1 s.2.2 μ) (v1, v2, (nI 0))) fun x8 =>
  some x8
def Versions_copyFrom (v0 : Nat) (v1 : Nat) (μ : Mm) : Option Mm :=
  chc (nI 0) (nI 0) (μ.1 v1 4) 40 40 <|
  lt (cpy μ (v1 + 1) (ix (nI 0)) (v0 + 1) (ix (nI 0)) (ix (μ.1 v1 4))) fun μ1 =>
  chc (nI 0) (nI 0) (μ1.1 v1 4) 40 40 <|
  lt (cpy μ1 (v1 + 2) (ix (nI 0)) (v0 + 2) (ix (nI 0)) (ix (μ1.1 v1 4))) fun μ2 =>
  chc (nI 0) (nI 0) (μ2.1 v1 4) 40 40 <|
  lt (cpy μ2 (v1 + 3) (ix (nI 0)) (v0 + 3) (ix (nI 0)) (ix (μ2.1 v1 4))) fun μ3 =>
  chc (nI 0) (nI 0) (μ3.1 v1 4) 40 40 <|
  lt (cpy μ3 (v1 + 4) (ix (nI 0)) (v0 + 4) (ix (nI 0)) (ix (μ3.1 v1 4))) fun μ4 =>
  lt (sti μ4 v0 4 (μ4.1 v1 4)) fun μ5 =>
  some μ5
def World_hasPerson (v0 : Nat) (v1 : Int32) (μ : Mm) : Option Int32 :=
  if v1 < 0 then
    some (nI 0)
  else
    if (μ.1 v0 1) ≤ v1 then
      some (nI 0)
    else
      some (nI 1)
def World_hasLetter (v0 : Nat) (v1 : Int32) (v2 : Int32) (μ : Mm) : Option Int32 :=
  bnd (World_hasPerson v0 v1 μ) fun r1 =>
  if r1 = 0 then
    some (nI 0)
  else
    chv v1 16 <|
    bnd (Letters_has ((v0 + (21 + 9 * ix v1)) + 3) v2 μ) fun r3 =>
    if r3 = 0 then
      some (nI 0)
    else
      some (nI 1)
def World_addPerson (v0 : Nat) (v1 : Int32) (v2 : Int32) (v3 : Int32) (μ : Mm) : Option (Int32 × Mm) :=
  if (μ.1 v0 1) < (nI 16) then
    chv (μ.1 v0 1) 16 <|
    bnd (Person_begin (v0 + (21 + 9 * ix (μ.1 v0 1))) v1 v2 v3 μ) fun μ2 =>
    lt (sti μ2 v0 1 ((μ2.1 v0 1) + (nI 1))) fun μ3 =>
    some (((μ3.1 v0 1) - (nI 1)), μ3)
  else
    some ((-1), μ)
def World_give (v0 : Nat) (v1 : Int32) (v2 : Int32) (v3 : Int32) (μ : Mm) : Option Mm :=
  chv v1 16 <|
  chv (nI 1) 4 <|
  chv (nI 0) 4 <|
  bnd (Letters_add ((v0 + (21 + 9 * ix v1)) + 3) v2 v3 v1 ((μ.1 v0 7) + (μ.1 (v0 + 19) (ix (nI 1)))) (μ.1 (v0 + 19) (ix (nI 0))) μ) fun μ2 =>
  lt (stl μ2 (v0 + (21 + 9 * ix v1)) 6 ((μ2.2 (v0 + (21 + 9 * ix v1)) 6) ||| ((1 : Int64) <<< (Int32.toInt64 v2 &&& 63)))) fun μ3 =>
  some μ3
def World_receive_j108 (v0 : Nat) (v1 : Int32) (v2 : Int32) (v3 : Int32) (v5 : Int32) (μ : Mm) : Option (Int32 × Mm) :=
  chv v1 (sL SC (v0 + 8)) <|
  bnd (Book_add (v0 + 13) (μ.1 v0 7) (μ.1 (v0 + 8) (ix v1)) v2 v3 v5 μ) fun μ5 =>
  some (v5, μ5)
def World_receive (v0 : Nat) (v1 : Int32) (μ : Mm) : Option (Int32 × Mm) :=
  chv v1 (sL SC (v0 + 9)) <|
  chv v1 (sL SC (v0 + 10)) <|
  chv (μ.1 (v0 + 10) (ix v1)) 16 <|
  chv (nI 1) 6 <|
  if (μ.1 ((v0 + (21 + 9 * ix (μ.1 (v0 + 10) (ix v1)))) + 1) (ix (nI 1))) = (nI 1) then
    World_receive_j108 v0 v1 (μ.1 (v0 + 9) (ix v1)) (μ.1 (v0 + 10) (ix v1)) (nI 1) μ
  else
    bnd (Nine_hasBit (μ.1 (v0 + (21 + 9 * ix (μ.1 (v0 + 10) (ix v1)))) 5) (μ.1 (v0 + 9) (ix v1))) fun r2 =>
    if r2 = 0 then
      bnd (Letters_isFull ((v0 + (21 + 9 * ix (μ.1 (v0 + 10) (ix v1)))) + 3) μ) fun r3 =>
      if r3 = 0 then
        chv v1 (sL SC (v0 + 8)) <|
        bnd (World_give v0 (μ.1 (v0 + 10) (ix v1)) (μ.1 (v0 + 8) (ix v1)) (μ.1 (v0 + 9) (ix v1)) μ) fun μ4 =>
        World_receive_j108 v0 v1 (μ.1 (v0 + 9) (ix v1)) (μ.1 (v0 + 10) (ix v1)) (nI 0) μ4
      else
        lt (sti μ v0 10 ((μ.1 v0 10) + (nI 1))) fun μ6 =>
        World_receive_j108 v0 v1 (μ.1 (v0 + 9) (ix v1)) (μ.1 (v0 + 10) (ix v1)) (nI 3) μ6
    else
      World_receive_j108 v0 v1 (μ.1 (v0 + 9) (ix v1)) (μ.1 (v0 + 10) (ix v1)) (nI 2) μ
def World_bringPost_j62 (v0 : Nat) (v1 : Int32) (v2 : Int32) (v3 : Int32) (v4 : Int32) (μ : Mm) : Option ((Int32 × Int32 × Int32 × Mm) ⊕ (Int32 × Mm)) :=
  some (.inl (v1, v3, (v4 + (nI 1)), μ))
def World_bringPost_j54 (v0 : Nat) (v1 : Int32) (v2 : Int32) (v3 : Int32) (v4 : Int32) (μ : Mm) : Option ((Int32 × Int32 × Int32 × Mm) ⊕ (Int32 × Mm)) :=
  bnd (Letters_remove (v0 + 7) v3 μ) fun μ3 =>
  World_bringPost_j62 v0 v1 v2 v3 v4 μ3
def World_bringPost_l15 (v0 : Nat) (v1 : Int32) (v2 : Int32) (v3 : Int32) (v4 : Int32) (μ : Mm) : Option ((Int32 × Int32 × Int32 × Mm) ⊕ (Int32 × Mm)) :=
  if v2 ≤ v4 then
    some (.inr (v1, μ))
  else
    chv v3 (sL SC (v0 + 11)) <|
    if (μ.1 (v0 + 11) (ix v3)) ≤ (μ.1 v0 7) then
      bnd2 (World_receive v0 v3 μ) fun r2 μ1 =>
      if r2 = 0 then
        World_bringPost_j54 v0 (v1 + (nI 1)) v2 v3 v4 μ1
      else
        World_bringPost_j54 v0 v1 v2 v3 v4 μ1
    else
      World_bringPost_j62 v0 v1 v2 (v3 + (nI 1)) v4 μ
def World_bringPost (v0 : Nat) (μ : Mm) : Option (Int32 × Mm) :=
  bni (iter 1000000 (fun s => World_bringPost_l15 v0 s.1 (μ.1 (v0 + 7) 5) s.2.1 s.2.2.1 s.2.2.2) ((nI 0), (nI 0), (nI 0), μ)) fun x15 =>
  some (x15.1, x15.2)
def World_nameAll (v0 : Nat) (v1 : Int32) (v2 : Int32) (μ : Mm) : Option Mm :=
  chv v1 16 <|
  chv v2 (sL SC ((v0 + (21 + 9 * ix v1)) + 4)) <|
  chv (μ.1 ((v0 + (21 + 9 * ix v1)) + 4) (ix v2)) 40 <|
  chv (nI 0) 11 <|
  lt (sti μ (v0 + 20) (ix (nI 0)) (μ.1 (v0 + 3) (ix (μ.1 ((v0 + (21 + 9 * ix v1)) + 4) (ix v2))))) fun μ2 =>
  chv v2 (sL SC ((v0 + (21 + 9 * ix v1)) + 8)) <|
  chv (nI 1) 11 <|
  lt (sti μ2 (v0 + 20) (ix (nI 1)) (μ2.1 ((v0 + (21 + 9 * ix v1)) + 8) (ix v2))) fun μ3 =>
  chv (nI 1) 6 <|
  chv (nI 2) 11 <|
  lt (sti μ3 (v0 + 20) (ix (nI 2)) (μ3.1 ((v0 + (21 + 9 * ix v1)) + 1) (ix (nI 1)))) fun μ4 =>
  chv (nI 2) 6 <|
  chv (nI 3) 11 <|
  lt (sti μ4 (v0 + 20) (ix (nI 3)) (μ4.1 ((v0 + (21 + 9 * ix v1)) + 1) (ix (nI 2)))) fun μ5 =>
  chv (nI 4) 6 <|
  chv (nI 4) 11 <|
  lt (sti μ5 (v0 + 20) (ix (nI 4)) (μ5.1 ((v0 + (21 + 9 * ix v1)) + 1) (ix (nI 4)))) fun μ6 =>
  chv (nI 5) 11 <|
  lt (sti μ6 (v0 + 20) (ix (nI 5)) v1) fun μ7 =>
  chv (nI 6) 11 <|
  lt (sti μ7 (v0 + 20) (ix (nI 6)) (μ7.1 v0 7)) fun μ8 =>
  chv v2 (sL SC ((v0 + (21 + 9 * ix v1)) + 7)) <|
  chv (nI 7) 11 <|
  lt (sti μ8 (v0 + 20) (ix (nI 7)) ((μ8.1 ((v0 + (21 + 9 * ix v1)) + 7) (ix v2)) - (μ8.1 v0 7))) fun μ9 =>
  chv (nI 3) 6 <|
  chv (nI 8) 11 <|
  lt (sti μ9 (v0 + 20) (ix (nI 8)) (μ9.1 ((v0 + (21 + 9 * ix v1)) + 1) (ix (nI 3)))) fun μ10 =>
  chv (nI 9) 11 <|
  lt (sti μ10 (v0 + 20) (ix (nI 9)) (μ10.1 ((v0 + (21 + 9 * ix v1)) + 3) 5)) fun μ11 =>
  chv (μ.1 ((v0 + (21 + 9 * ix v1)) + 4) (ix v2)) 40 <|
  bnd (JI_bitCount (μ11.1 (v0 + 4) (ix (μ.1 ((v0 + (21 + 9 * ix v1)) + 4) (ix v2))))) fun r12 =>
  chv (nI 10) 11 <|
  lt (sti μ11 (v0 + 20) (ix (nI 10)) r12) fun μ13 =>
  some μ13
def Nine_heldTo (v0 : Int32) (v1 : Int32) : Option Int32 :=
  some (jmax (nI 0) (jmin v1 v0))
def World_copiesToWrite (v0 : Nat) (v1 : Int32) (v2 : Int32) (v3 : Nat) (μ : Mm) : Option (Int32 × Mm) :=
  bnd (World_nameAll v0 v1 v2 μ) fun μ1 =>
  bnd2 (Law_valueFor v3 (v0 + 20) (nI 1) μ1) fun r3 μ2 =>
  bnd (Nine_heldTo r3 (nI 9)) fun r4 =>
  some (r4, μ2)
def World_draw (v0 : Nat) (v1 : Int32) (μ : Mm) : Option (Int32 × Mm) :=
  lt (sti μ v0 6 (((μ.1 v0 6) * (nI 1664525)) + (nI 1013904223))) fun μ1 =>
  chk (¬ (v1 : Int32) = 0) <|
  some (((ushr (μ1.1 v0 6) (nI 8)) - (ushr (μ1.1 v0 6) (nI 8)) / v1 * v1), μ1)
def World_versionOfCopy_j71 (v0 : Nat) (v1 : Int32) (v2 : Int32) (v3 : Int32) (v4 : Int32) (μ : Mm) : Option (Int32 × Mm) :=
  chv v1 40 <|
  bnd2 (Versions_add (v0 + 2) v4 ((μ.1 (v0 + 4) (ix v1)) ^^^ ((nI 1) <<< (v3 &&& 31))) v1 v2 μ) fun r7 μ6 =>
  some (r7, μ6)
def World_versionOfCopy (v0 : Nat) (v1 : Int32) (v2 : Int32) (μ : Mm) : Option (Int32 × Mm) :=
  chv (nI 2) 4 <|
  if (μ.1 (v0 + 19) (ix (nI 2))) = 0 then
    some (v1, μ)
  else
    bnd2 (World_draw v0 (nI 1000) μ) fun r2 μ1 =>
    chv (nI 2) 4 <|
    if r2 < (μ1.1 (v0 + 19) (ix (nI 2))) then
      bnd2 (World_draw v0 (nI 10) μ1) fun r4 μ3 =>
      bnd (Versions_isFull (v0 + 2) μ3) fun r5 =>
      if r5 = 0 then
        chv v1 40 <|
        if r4 = 0 then
          lt (jmax (nI 0) ((μ3.1 (v0 + 3) (ix v1)) - (nI 1))) fun u8 =>
          World_versionOfCopy_j71 v0 v1 v2 r4 u8 μ3
        else
          World_versionOfCopy_j71 v0 v1 v2 r4 (μ3.1 (v0 + 3) (ix v1)) μ3
      else
        some (v1, μ3)
    else
      some (v1, μ1)
def World_sendCopy_j148 (v0 : Nat) (v1 : Int32) (v2 : Int32) (v4 : Nat) (s0 : Nat) (s1 : Int32) (μ : Mm) : Option Mm :=
  lt (sti μ s0 4 s1) fun μ10 =>
  chv (nI 3) 6 <|
  chv (nI 3) 6 <|
  lt (sti μ10 (v4 + 1) (ix (nI 3)) ((μ10.1 (v4 + 1) (ix (nI 3))) - (nI 1))) fun μ11 =>
  chv v2 (sL SC (v4 + 8)) <|
  chv v2 (sL SC (v4 + 8)) <|
  lt (sti μ11 (v4 + 8) (ix v2) ((μ11.1 (v4 + 8) (ix v2)) - (nI 1))) fun μ12 =>
  lt (sti μ12 v0 11 ((μ12.1 v0 11) ||| ((nI 1) <<< (v1 &&& 31)))) fun μ13 =>
  some μ13
def World_sendCopy_j106 (v0 : Nat) (v1 : Int32) (v2 : Int32) (v4 : Nat) (v6 : Int32) (μ : Mm) : Option Mm :=
  lt (sti μ v4 5 ((μ.1 v4 5) ||| ((nI 1) <<< (v6 &&& 31)))) fun μ9 =>
  if (μ9.1 v4 3) ≤ ((μ9.1 v4 4) + (nI 1)) then
    World_sendCopy_j148 v0 v1 v2 v4 v4 (nI 0) μ9
  else
    World_sendCopy_j148 v0 v1 v2 v4 v4 ((μ9.1 v4 4) + (nI 1)) μ9
def World_sendCopy (v0 : Nat) (v1 : Int32) (v2 : Int32) (v3 : Nat) (μ : Mm) : Option Mm :=
  chv v1 16 <|
  chv v2 (sL SC ((v0 + (21 + 9 * ix v1)) + 4)) <|
  bnd2 (World_versionOfCopy v0 (μ.1 ((v0 + (21 + 9 * ix v1)) + 4) (ix v2)) v1 μ) fun r3 μ2 =>
  chv (μ2.1 (v0 + (21 + 9 * ix v1)) 4) 9 <|
  lt (μ2.1 ((v0 + (21 + 9 * ix v1)) + 2) (ix (μ2.1 (v0 + (21 + 9 * ix v1)) 4))) fun u4 =>
  bnd (Letters_isFull (v0 + 7) μ2) fun r5 =>
  if r5 = 0 then
    chv (nI 0) 6 <|
    chv u4 16 <|
    chv (nI 0) 6 <|
    bnd (Post_daysBetween v3 (μ2.1 ((v0 + (21 + 9 * ix v1)) + 1) (ix (nI 0))) (μ2.1 ((v0 + (21 + 9 * ix u4)) + 1) (ix (nI 0))) μ2) fun r7 =>
    bnd (Letters_add (v0 + 7) r3 v1 u4 ((μ2.1 v0 7) + r7) (nI 0) μ2) fun μ8 =>
    World_sendCopy_j106 v0 v1 v2 (v0 + (21 + 9 * ix v1)) u4 μ8
  else
    lt (sti μ2 v0 10 ((μ2.1 v0 10) + (nI 1))) fun μ14 =>
    World_sendCopy_j106 v0 v1 v2 (v0 + (21 + 9 * ix v1)) u4 μ14
def World_writeOut_l73 (v0 : Nat) (v1 : Int32) (v2 : Nat) (v3 : Nat) (v4 : Nat) (v5 : Int32) (v6 : Int32) (v7 : Int32) (v9 : Int32) (v10 : Int32) (μ : Mm) : Option ((Int32 × Mm) ⊕ Mm) :=
  if v9 ≤ v10 then
    some (.inr μ)
  else
    bnd (World_sendCopy v0 v1 v6 (v2 + 13) μ) fun μ5 =>
    some (.inl ((v10 + (nI 1)), μ5))
def World_writeOut_j131 (v0 : Nat) (v1 : Int32) (v2 : Nat) (v3 : Nat) (v4 : Nat) (v5 : Int32) (v6 : Int32) (v7 : Int32) (μ : Mm) : Option ((Int32 × Int32 × Mm) ⊕ Mm) :=
  some (.inl (v6, (v7 + (nI 1)), μ))
def World_writeOut_l26 (v0 : Nat) (v1 : Int32) (v2 : Nat) (v3 : Nat) (v4 : Nat) (v5 : Int32) (v6 : Int32) (v7 : Int32) (μ : Mm) : Option ((Int32 × Int32 × Mm) ⊕ Mm) :=
  if v5 ≤ v7 then
    some (.inr μ)
  else
    chv v6 (sL SC (v4 + 5)) <|
    chv (nI 3) 6 <|
    lt (jmin (μ.1 (v4 + 5) (ix v6)) (μ.1 (v3 + 1) (ix (nI 3)))) fun u2 =>
    bnd2 (World_copiesToWrite v0 v1 v6 (v2 + 1) μ) fun r4 μ3 =>
    bni (iter 1000000 (fun s => World_writeOut_l73 v0 v1 v2 v3 v4 v5 v6 v7 (jmin r4 u2) s.1 s.2) ((nI 0), μ3)) fun x73 =>
    chv v6 (sL SC (v4 + 5)) <|
    if (x73.1 (v4 + 5) (ix v6)) = 0 then
      bnd (Letters_remove v4 v6 x73) fun μ6 =>
      lt (sti μ6 v0 8 ((μ6.1 v0 8) + (nI 1))) fun μ7 =>
      World_writeOut_j131 v0 v1 v2 v3 v4 v5 v6 v7 μ7
    else
      World_writeOut_j131 v0 v1 v2 v3 v4 v5 (v6 + (nI 1)) v7 x73
def World_writeOut (v0 : Nat) (v1 : Int32) (v2 : Nat) (μ : Mm) : Option Mm :=
  chv v1 16 <|
  bni (iter 1000000 (fun s => World_writeOut_l26 v0 v1 v2 (v0 + (21 + 9 * ix v1)) ((v0 + (21 + 9 * ix v1)) + 3) (μ.1 ((v0 + (21 + 9 * ix v1)) + 3) 5) s.1 s.2.1 s.2.2) ((nI 0), (nI 0), μ)) fun x26 =>
  some x26
def World_illLuck (v0 : Nat) (v1 : Int32) (v2 : Int32) (v3 : Nat) (μ : Mm) : Option (Int32 × Mm) :=
  bnd (World_nameAll v0 v1 v2 μ) fun μ1 =>
  chv v1 16 <|
  chv v2 (sL SC ((v0 + (21 + 9 * ix v1)) + 4)) <|
  chv (μ1.1 ((v0 + (21 + 9 * ix v1)) + 4) (ix v2)) 40 <|
  chv v2 (sL SC ((v0 + (21 + 9 * ix v1)) + 8)) <|
  bnd2 (Law_valueFor v3 (v0 + 20) ((μ1.1 (v0 + 3) (ix (μ1.1 ((v0 + (21 + 9 * ix v1)) + 4) (ix v2)))) * (μ1.1 ((v0 + (21 + 9 * ix v1)) + 8) (ix v2))) μ1) fun r4 μ3 =>
  bnd (Nine_heldTo r4 (nI 999)) fun r5 =>
  some (r5, μ3)
def World_curseDue_j96 (v0 : Nat) (v1 : Int32) (v2 : Nat) (v3 : Nat) (v4 : Nat) (v5 : Int32) (v6 : Int32) (v7 : Int32) (μ : Mm) : Option ((Int32 × Int32 × Mm) ⊕ Mm) :=
  some (.inl (v6, (v7 + (nI 1)), μ))
def World_curseDue_l26 (v0 : Nat) (v1 : Int32) (v2 : Nat) (v3 : Nat) (v4 : Nat) (v5 : Int32) (v6 : Int32) (v7 : Int32) (μ : Mm) : Option ((Int32 × Int32 × Mm) ⊕ Mm) :=
  if v5 ≤ v7 then
    some (.inr μ)
  else
    chv v6 (sL SC (v4 + 4)) <|
    if (μ.1 (v4 + 4) (ix v6)) ≤ (μ.1 v0 7) then
      chv (nI 4) 6 <|
      bnd2 (World_illLuck v0 v1 v6 v2 μ) fun r3 μ2 =>
      chv (nI 4) 6 <|
      lt (sti μ2 (v3 + 1) (ix (nI 4)) (jmax (nI 0) ((μ.1 (v3 + 1) (ix (nI 4))) - r3))) fun μ4 =>
      bnd (Letters_remove v4 v6 μ4) fun μ5 =>
      lt (sti μ5 v0 9 ((μ5.1 v0 9) + (nI 1))) fun μ6 =>
      World_curseDue_j96 v0 v1 v2 v3 v4 v5 v6 v7 μ6
    else
      World_curseDue_j96 v0 v1 v2 v3 v4 v5 (v6 + (nI 1)) v7 μ
def World_curseDue (v0 : Nat) (v1 : Int32) (v2 : Nat) (μ : Mm) : Option Mm :=
  chv v1 16 <|
  bni (iter 1000000 (fun s => World_curseDue_l26 v0 v1 v2 (v0 + (21 + 9 * ix v1)) ((v0 + (21 + 9 * ix v1)) + 3) (μ.1 ((v0 + (21 + 9 * ix v1)) + 3) 5) s.1 s.2.1 s.2.2) ((nI 0), (nI 0), μ)) fun x26 =>
  some x26
def World_passDay_j46 (v0 : Nat) (v1 : Nat) (v2 : Int32) (v3 : Int32) (μ : Mm) : Option ((Int32 × Mm) ⊕ Mm) :=
  some (.inl ((v3 + (nI 1)), μ))
def World_passDay_l20 (v0 : Nat) (v1 : Nat) (v2 : Int32) (v3 : Int32) (μ : Mm) : Option ((Int32 × Mm) ⊕ Mm) :=
  if (μ.1 v0 1) ≤ v3 then
    some (.inr μ)
  else
    chv v3 16 <|
    bnd (Person_isWriting (v0 + (21 + 9 * ix v3)) μ) fun r2 =>
    if r2 = 0 then
      World_passDay_j46 v0 v1 v2 v3 μ
    else
      bnd (World_writeOut v0 v3 v1 μ) fun μ3 =>
      World_passDay_j46 v0 v1 v2 v3 μ3
def World_passDay_j86 (v0 : Nat) (v1 : Nat) (v2 : Int32) (v3 : Int32) (μ : Mm) : Option ((Int32 × Mm) ⊕ Mm) :=
  some (.inl ((v3 + (nI 1)), μ))
def World_passDay_l54 (v0 : Nat) (v1 : Nat) (v2 : Int32) (v3 : Int32) (μ : Mm) : Option ((Int32 × Mm) ⊕ Mm) :=
  if (μ.1 v0 1) ≤ v3 then
    some (.inr μ)
  else
    chv v3 16 <|
    chv (nI 1) 6 <|
    if (μ.1 ((v0 + (21 + 9 * ix v3)) + 1) (ix (nI 1))) = (nI 2) then
      World_passDay_j86 v0 v1 v2 v3 μ
    else
      bnd (World_curseDue v0 v3 (v1 + 7) μ) fun μ5 =>
      World_passDay_j86 v0 v1 v2 v3 μ5
def World_passDay_j17 (v0 : Nat) (v1 : Nat) (s0 : Int32) (μ : Mm) : Option (Int32 × Mm) :=
  bni (iter 1000000 (fun s => World_passDay_l20 v0 v1 s0 s.1 s.2) ((nI 0), μ)) fun x20 =>
  bni (iter 1000000 (fun s => World_passDay_l54 v0 v1 s0 s.1 s.2) ((nI 0), x20)) fun x54 =>
  lt (sti x54 v0 7 ((x54.1 v0 7) + (nI 1))) fun μ6 =>
  some (s0, μ6)
def World_passDay (v0 : Nat) (v1 : Nat) (μ : Mm) : Option (Int32 × Mm) :=
  chv (nI 3) 4 <|
  if (μ.1 (v0 + 19) (ix (nI 3))) = 0 then
    bnd2 (World_bringPost v0 μ) fun r8 μ7 =>
    World_passDay_j17 v0 v1 r8 μ7
  else
    World_passDay_j17 v0 v1 (nI 0) μ
def World_leastStamps_j129 (v0 : Nat) (v3 : Nat) (v4 : Nat) (v5 : Int32) (v6 : Int32) (v7 : Int32) (v8 : Int32) (v9 : Int32) (μ : Mm) : Option ((Int32 × Int32 × Int32) ⊕ (Int32 × Int32)) :=
  some (.inl (v6, v7, (v9 + (nI 1))))
def World_leastStamps_j97 (v0 : Nat) (v3 : Nat) (v4 : Nat) (v5 : Int32) (v6 : Int32) (v7 : Int32) (v8 : Int32) (v9 : Int32) (s0 : Int32) (μ : Mm) : Option ((Int32 × Int32 × Int32) ⊕ (Int32 × Int32)) :=
  if v6 ≤ 0 then
    World_leastStamps_j129 v0 v3 v4 v5 v6 v7 v8 v9 μ
  else
    if s0 = 0 then
      World_leastStamps_j129 v0 v3 v4 v5 v6 v7 v8 v9 μ
    else
      bnd (Nine_hasBit v5 v9) fun r6 =>
      if r6 = 0 then
        World_leastStamps_j129 v0 v3 v4 v5 v6 v7 v8 v9 μ
      else
        World_leastStamps_j129 v0 v3 v4 v5 (v6 + (-1)) (v7 + v8) v8 v9 μ
def World_leastStamps_l55 (v0 : Nat) (v3 : Nat) (v4 : Nat) (v5 : Int32) (v6 : Int32) (v7 : Int32) (v8 : Int32) (v9 : Int32) (μ : Mm) : Option ((Int32 × Int32 × Int32) ⊕ (Int32 × Int32)) :=
  if (μ.1 v0 1) ≤ v9 then
    some (.inr (v6, v7))
  else
    chv (nI 0) 6 <|
    chv v9 16 <|
    chv (nI 0) 6 <|
    bnd (Post_daysBetween v3 (μ.1 (v4 + 1) (ix (nI 0))) (μ.1 ((v0 + (21 + 9 * ix v9)) + 1) (ix (nI 0))) μ) fun r5 =>
    if r5 = v8 then
      World_leastStamps_j97 v0 v3 v4 v5 v6 v7 v8 v9 (nI 1) μ
    else
      World_leastStamps_j97 v0 v3 v4 v5 v6 v7 v8 v9 (nI 0) μ
def World_leastStamps_l45 (v0 : Nat) (v3 : Nat) (v4 : Nat) (v5 : Int32) (v6 : Int32) (v7 : Int32) (v8 : Int32) (μ : Mm) : Option ((Int32 × Int32 × Int32) ⊕ Int32) :=
  if (nI 20) < v8 then
    some (.inr v7)
  else
    bni (iter 1000000 (fun s => World_leastStamps_l55 v0 v3 v4 v5 s.1 s.2.1 v8 s.2.2 μ) (v6, v7, (nI 0))) fun x55 =>
    some (.inl (x55.1, x55.2, (v8 + (nI 1))))
def World_leastStamps (v0 : Nat) (v1 : Int32) (v2 : Int32) (v3 : Nat) (μ : Mm) : Option Int32 :=
  chv v1 16 <|
  bnd (Person_rowSet (v0 + (21 + 9 * ix v1)) μ) fun r2 =>
  chv v2 (sL SC ((v0 + (21 + 9 * ix v1)) + 8)) <|
  bnd (JI_bitCount r2) fun r3 =>
  if (μ.1 ((v0 + (21 + 9 * ix v1)) + 8) (ix v2)) ≤ r3 then
    bni (iter 1000000 (fun s => World_leastStamps_l45 v0 v3 (v0 + (21 + 9 * ix v1)) r2 s.1 s.2.1 s.2.2 μ) ((μ.1 ((v0 + (21 + 9 * ix v1)) + 8) (ix v2)), (nI 0), (nI 1))) fun x45 =>
    some x45
  else
    some (-1)
def World_countHeld_j47 (v0 : Nat) (v1 : Int32) (v2 : Int32) (v3 : Int32) (μ : Mm) : Option ((Int32 × Int32) ⊕ Int32) :=
  some (.inl (v2, (v3 + (nI 1))))
def World_countHeld_j32 (v0 : Nat) (v1 : Int32) (v2 : Int32) (v3 : Int32) (μ : Mm) : Option ((Int32 × Int32) ⊕ Int32) :=
  chv v3 16 <|
  World_countHeld_j47 v0 v1 (v2 + (μ.1 ((v0 + (21 + 9 * ix v3)) + 3) 5)) v3 μ
def World_countHeld_l4 (v0 : Nat) (v1 : Int32) (v2 : Int32) (v3 : Int32) (μ : Mm) : Option ((Int32 × Int32) ⊕ Int32) :=
  if (μ.1 v0 1) ≤ v3 then
    some (.inr v2)
  else
    if v1 = (-1) then
      World_countHeld_j32 v0 v1 v2 v3 μ
    else
      chv v3 16 <|
      chv (nI 0) 6 <|
      if (μ.1 ((v0 + (21 + 9 * ix v3)) + 1) (ix (nI 0))) = v1 then
        World_countHeld_j32 v0 v1 v2 v3 μ
      else
        World_countHeld_j47 v0 v1 v2 v3 μ
def World_countHeld (v0 : Nat) (v1 : Int32) (μ : Mm) : Option Int32 :=
  bni (iter 1000000 (fun s => World_countHeld_l4 v0 v1 s.1 s.2 μ) ((nI 0), (nI 0))) fun x4 =>
  some x4
def World_isOver_j42 (v0 : Nat) (v1 : Int32) (μ : Mm) : Option (Int32 ⊕ (Unit ⊕ Unit)) :=
  some (.inl (v1 + (nI 1)))
def World_isOver_l2 (v0 : Nat) (v1 : Int32) (μ : Mm) : Option (Int32 ⊕ (Unit ⊕ Unit)) :=
  if (μ.1 v0 1) ≤ v1 then
    some (.inr (Sum.inr ()))
  else
    chv v1 16 <|
    chv (nI 1) 6 <|
    if (μ.1 ((v0 + (21 + 9 * ix v1)) + 1) (ix (nI 1))) = (nI 2) then
      World_isOver_j42 v0 v1 μ
    else
      chv v1 16 <|
      if (μ.1 ((v0 + (21 + 9 * ix v1)) + 3) 5) ≤ 0 then
        World_isOver_j42 v0 v1 μ
      else
        some (.inr (Sum.inl ()))
def World_isOver (v0 : Nat) (μ : Mm) : Option Int32 :=
  bni (iter 1000000 (fun s => World_isOver_l2 v0 s μ) (nI 0)) fun x2 => 
  (Sum.elim (fun x2a =>
    some (nI 0))
    (fun x2b =>
      if (μ.1 (v0 + 7) 5) = 0 then
        some (nI 1)
      else
        some (nI 0))) x2
def World_countLettersOf_j31 (v0 : Nat) (v1 : Int32) (v2 : Int32) (v3 : Int32) (μ : Mm) : Option ((Int32 × Int32) ⊕ Int32) :=
  some (.inl (v2, (v3 + (nI 1))))
def World_countLettersOf_l4 (v0 : Nat) (v1 : Int32) (v2 : Int32) (v3 : Int32) (μ : Mm) : Option ((Int32 × Int32) ⊕ Int32) :=
  if (μ.1 (v0 + 7) 5) ≤ v3 then
    some (.inr v2)
  else
    chv v3 (sL SC (v0 + 8)) <|
    if (μ.1 (v0 + 8) (ix v3)) = v1 then
      World_countLettersOf_j31 v0 v1 (v2 + (nI 1)) v3 μ
    else
      World_countLettersOf_j31 v0 v1 v2 v3 μ
def World_countLettersOf_j86 (v0 : Nat) (v1 : Int32) (v2 : Int32) (v3 : Int32) (v4 : Nat) (v5 : Int32) (μ : Mm) : Option ((Int32 × Int32) ⊕ Int32) :=
  some (.inl (v2, (v5 + (nI 1))))
def World_countLettersOf_l61 (v0 : Nat) (v1 : Int32) (v2 : Int32) (v3 : Int32) (v4 : Nat) (v5 : Int32) (μ : Mm) : Option ((Int32 × Int32) ⊕ Int32) :=
  if (μ.1 v4 5) ≤ v5 then
    some (.inr v2)
  else
    chv v5 (sL SC (v4 + 1)) <|
    if (μ.1 (v4 + 1) (ix v5)) = v1 then
      World_countLettersOf_j86 v0 v1 (v2 + (nI 1)) v3 v4 v5 μ
    else
      World_countLettersOf_j86 v0 v1 v2 v3 v4 v5 μ
def World_countLettersOf_l39 (v0 : Nat) (v1 : Int32) (v2 : Int32) (v3 : Int32) (μ : Mm) : Option ((Int32 × Int32) ⊕ Int32) :=
  if (μ.1 v0 1) ≤ v3 then
    some (.inr v2)
  else
    chv v3 16 <|
    bni (iter 1000000 (fun s => World_countLettersOf_l61 v0 v1 s.1 v3 ((v0 + (21 + 9 * ix v3)) + 3) s.2 μ) (v2, (nI 0))) fun x61 =>
    some (.inl (x61, (v3 + (nI 1))))
def World_countLettersOf (v0 : Nat) (v1 : Int32) (μ : Mm) : Option Int32 :=
  bni (iter 1000000 (fun s => World_countLettersOf_l4 v0 v1 s.1 s.2 μ) ((nI 0), (nI 0))) fun x4 =>
  bni (iter 1000000 (fun s => World_countLettersOf_l39 v0 v1 s.1 s.2 μ) (x4, (nI 0))) fun x39 =>
  some x39
def World_isKnown_l2 (v0 : Nat) (v1 : Int32) (v2 : Int32) (μ : Mm) : Option (Int32 ⊕ (Unit ⊕ Unit)) :=
  if (μ.1 v0 1) ≤ v2 then
    some (.inr (Sum.inr ()))
  else
    chv v2 16 <|
    if (lg_cmp (((μ.2 (v0 + (21 + 9 * ix v2)) 6) >>> (Int32.toInt64 v1 &&& 63)) &&& 1) 1) = 0 then
      some (.inr (Sum.inl ()))
    else
      some (.inl (v2 + (nI 1)))
def World_isKnown (v0 : Nat) (v1 : Int32) (μ : Mm) : Option Int32 :=
  bni (iter 1000000 (fun s => World_isKnown_l2 v0 v1 s μ) (nI 0)) fun x2 => 
  (Sum.elim (fun x2a =>
    some (nI 1))
    (fun x2b =>
      some (nI 0))) x2
def World_countHeldWith_j59 (v0 : Nat) (v1 : Int32) (v2 : Int32) (v3 : Int32) (v4 : Nat) (v5 : Int32) (μ : Mm) : Option ((Int32 × Int32) ⊕ Int32) :=
  some (.inl (v2, (v5 + (nI 1))))
def World_countHeldWith_l26 (v0 : Nat) (v1 : Int32) (v2 : Int32) (v3 : Int32) (v4 : Nat) (v5 : Int32) (μ : Mm) : Option ((Int32 × Int32) ⊕ Int32) :=
  if (μ.1 v4 5) ≤ v5 then
    some (.inr v2)
  else
    chv v5 (sL SC (v4 + 1)) <|
    chv (μ.1 (v4 + 1) (ix v5)) 40 <|
    if (μ.1 (v0 + 3) (ix (μ.1 (v4 + 1) (ix v5)))) = v1 then
      World_countHeldWith_j59 v0 v1 (v2 + (nI 1)) v3 v4 v5 μ
    else
      World_countHeldWith_j59 v0 v1 v2 v3 v4 v5 μ
def World_countHeldWith_l4 (v0 : Nat) (v1 : Int32) (v2 : Int32) (v3 : Int32) (μ : Mm) : Option ((Int32 × Int32) ⊕ Int32) :=
  if (μ.1 v0 1) ≤ v3 then
    some (.inr v2)
  else
    chv v3 16 <|
    bni (iter 1000000 (fun s => World_countHeldWith_l26 v0 v1 s.1 v3 ((v0 + (21 + 9 * ix v3)) + 3) s.2 μ) (v2, (nI 0))) fun x26 =>
    some (.inl (x26, (v3 + (nI 1))))
def World_countHeldWith (v0 : Nat) (v1 : Int32) (μ : Mm) : Option Int32 :=
  bni (iter 1000000 (fun s => World_countHeldWith_l4 v0 v1 s.1 s.2 μ) ((nI 0), (nI 0))) fun x4 =>
  some x4
def World_commonestCurse_j30 (v0 : Nat) (v1 : Int32) (v2 : Int32) (v3 : Int32) (μ : Mm) : Option ((Int32 × Int32 × Int32) ⊕ Int32) :=
  some (.inl (v1, v2, (v3 + (nI 1))))
def World_commonestCurse_l6 (v0 : Nat) (v1 : Int32) (v2 : Int32) (v3 : Int32) (μ : Mm) : Option ((Int32 × Int32 × Int32) ⊕ Int32) :=
  if (nI 9) < v3 then
    some (.inr v1)
  else
    bnd (World_countHeldWith v0 v3 μ) fun r1 =>
    if r1 ≤ v2 then
      World_commonestCurse_j30 v0 v1 v2 v3 μ
    else
      World_commonestCurse_j30 v0 v3 r1 v3 μ
def World_commonestCurse (v0 : Nat) (μ : Mm) : Option Int32 :=
  bni (iter 1000000 (fun s => World_commonestCurse_l6 v0 s.1 s.2.1 s.2.2 μ) ((-1), (nI 0), (nI 0))) fun x6 =>
  some x6
def World_reachedFrom_j80 (v0 : Nat) (v2 : Int32) (v3 : Int32) (v4 : Int32) (v5 : Int32) (v6 : Int32) (v7 : Int32) (μ : Mm) : Option ((Int32 × Int32) ⊕ Int32) :=
  some (.inl (v6, (v7 + (nI 1))))
def World_reachedFrom_l33 (v0 : Nat) (v2 : Int32) (v3 : Int32) (v4 : Int32) (v5 : Int32) (v6 : Int32) (v7 : Int32) (μ : Mm) : Option ((Int32 × Int32) ⊕ Int32) :=
  if (μ.1 v0 1) ≤ v7 then
    some (.inr v6)
  else
    bnd (Nine_hasBit v4 v7) fun r3 =>
    if r3 = 0 then
      World_reachedFrom_j80 v0 v2 v3 v4 v5 v6 v7 μ
    else
      chv v7 16 <|
      bnd (Person_passesOn (v0 + (21 + 9 * ix v7)) μ) fun r5 =>
      if r5 = 0 then
        World_reachedFrom_j80 v0 v2 v3 v4 v5 v6 v7 μ
      else
        chv v7 16 <|
        bnd (Person_rowSet (v0 + (21 + 9 * ix v7)) μ) fun r7 =>
        World_reachedFrom_j80 v0 v2 v3 v4 v5 (v6 ||| r7) v7 μ
def World_reachedFrom_l16 (v0 : Nat) (v2 : Int32) (v3 : Int32) (v4 : Int32) (v5 : Int32) (μ : Mm) : Option ((Int32 × Int32 × Int32) ⊕ Int32) :=
  if v2 ≤ v5 then
    some (.inr v3)
  else
    if v4 = 0 then
      some (.inr v3)
    else
      bni (iter 1000000 (fun s => World_reachedFrom_l33 v0 v2 v3 v4 v5 s.1 s.2 μ) ((nI 0), (nI 0))) fun x33 =>
      some (.inl ((v3 ||| x33), (x33 &&& (v3 ^^^ (-1))), (v5 + (nI 1))))
def World_reachedFrom (v0 : Nat) (v1 : Int32) (v2 : Int32) (μ : Mm) : Option Int32 :=
  chv v1 16 <|
  bnd (Person_rowSet (v0 + (21 + 9 * ix v1)) μ) fun r2 =>
  bni (iter 1000000 (fun s => World_reachedFrom_l16 v0 v2 s.1 s.2.1 s.2.2 μ) (r2, r2, (nI 1))) fun x16 =>
  some x16
def World_copyFrom_l2 (v0 : Nat) (v1 : Nat) (v2 : Int32) (μ : Mm) : Option ((Int32 × Mm) ⊕ Mm) :=
  if (μ.1 v1 1) ≤ v2 then
    some (.inr μ)
  else
    chv v2 16 <|
    chv v2 16 <|
    bnd (Person_copyFrom (v0 + (21 + 9 * ix v2)) (v1 + (21 + 9 * ix v2)) μ) fun μ3 =>
    some (.inl ((v2 + (nI 1)), μ3))
def World_copyFrom (v0 : Nat) (v1 : Nat) (μ : Mm) : Option Mm :=
  bni (iter 1000000 (fun s => World_copyFrom_l2 v0 v1 s.1 s.2) ((nI 0), μ)) fun x2 =>
  lt (sti x2 v0 1 (x2.1 v1 1)) fun μ4 =>
  bnd (Versions_copyFrom (v0 + 2) (v1 + 2) μ4) fun μ5 =>
  bnd (Letters_copyFrom (v0 + 7) (v1 + 7) μ5) fun μ6 =>
  bnd (Book_copyFrom (v0 + 13) (v1 + 13) μ6) fun μ7 =>
  chc (nI 0) (nI 0) (nI 4) 4 4 <|
  lt (cpy μ7 (v1 + 19) (ix (nI 0)) (v0 + 19) (ix (nI 0)) (ix (nI 4))) fun μ8 =>
  lt (sti μ8 v0 6 (μ8.1 v1 6)) fun μ9 =>
  lt (sti μ9 v0 7 (μ9.1 v1 7)) fun μ10 =>
  lt (sti μ10 v0 8 (μ10.1 v1 8)) fun μ11 =>
  lt (sti μ11 v0 9 (μ11.1 v1 9)) fun μ12 =>
  lt (sti μ12 v0 10 (μ12.1 v1 10)) fun μ13 =>
  lt (sti μ13 v0 11 (nI 0)) fun μ14 =>
  some μ14
def Nine_forgetBefore (μ : Mm) : Option Mm :=
  lt (sti μ 0 8 (nI 0)) fun μ1 =>
  some μ1
def Nine_state (v1 : Int32) (μ : Mm) : Option (Int32 × Mm) :=
  lt (sti μ 1 6 v1) fun μ1 =>
  bnd (Nine_forgetBefore μ1) fun μ2 =>
  some ((μ.1 1 6), μ2)
def Nine_canBeTold (v0 : Int32) (v1 : Int32) (μ : Mm) : Option Int32 :=
  if v0 < 0 then
    some (nI 0)
  else
    if 10 ≤ v0 then
      some (nI 0)
    else
      chv v0 10 <|
      if v1 < (leastT.getD (ix v0) 0) then
        some (nI 0)
      else
        chv v0 10 <|
        if (mostT.getD (ix v0) 0) < v1 then
          some (nI 0)
        else
          some (nI 1)
def Nine_person (v1 : Int32) (v2 : Int32) (v3 : Int32) (μ : Mm) : Option (Int32 × Mm) :=
  bnd (Nine_canBeTold (nI 0) v1 μ) fun r1 =>
  if r1 = 0 then
    some ((-1), μ)
  else
    bnd (Nine_canBeTold (nI 1) v2 μ) fun r2 =>
    if r2 = 0 then
      some ((-1), μ)
    else
      bnd (Nine_canBeTold (nI 2) v3 μ) fun r3 =>
      if r3 = 0 then
        some ((-1), μ)
      else
        if (μ.1 1 1) = (nI 16) then
          some ((-1), μ)
        else
          bnd (Nine_forgetBefore μ) fun μ4 =>
          bnd2 (World_addPerson 1 v1 v2 v3 μ4) fun r6 μ5 =>
          some (r6, μ5)
def Nine_set_j63 (μ : Mm) : Option (Int32 × Mm) :=
  bnd (Nine_forgetBefore μ) fun μ5 =>
  some ((nI 1), μ5)
def Nine_set (v1 : Int32) (v2 : Int32) (v3 : Int32) (μ : Mm) : Option (Int32 × Mm) :=
  bnd (Nine_canBeTold v1 v3 μ) fun r1 =>
  if r1 = 0 then
    some ((nI 0), μ)
  else
    if v1 < (nI 6) then
      bnd (World_hasPerson 1 v2 μ) fun r2 =>
      if r2 = 0 then
        some ((nI 0), μ)
      else
        chv v2 16 <|
        chv v1 6 <|
        lt (sti μ ((1 + (21 + 9 * ix v2)) + 1) (ix v1) v3) fun μ4 =>
        Nine_set_j63 μ4
    else
      chv (v1 - (nI 6)) 4 <|
      lt (sti μ 20 (ix (v1 - (nI 6))) v3) fun μ6 =>
      Nine_set_j63 μ6
def Nine_address_j91 (v3 : Nat) (μ : Mm) : Option (Int32 × Mm) :=
  bnd (Nine_forgetBefore μ) fun μ6 =>
  some ((μ6.1 v3 3), μ6)
def Nine_address (v1 : Int32) (v2 : Int32) (μ : Mm) : Option (Int32 × Mm) :=
  bnd (World_hasPerson 1 v1 μ) fun r1 =>
  if r1 = 0 then
    some ((-1), μ)
  else
    chv v1 16 <|
    if v2 = (-1) then
      lt (sti μ (1 + (21 + 9 * ix v1)) 3 (nI 0)) fun μ7 =>
      lt (sti μ7 (1 + (21 + 9 * ix v1)) 4 (nI 0)) fun μ8 =>
      Nine_address_j91 (1 + (21 + 9 * ix v1)) μ8
    else
      bnd (World_hasPerson 1 v2 μ) fun r3 =>
      if r3 = 0 then
        some ((-1), μ)
      else
        if v2 = v1 then
          some ((-1), μ)
        else
          if (nI 9) ≤ (μ.1 (1 + (21 + 9 * ix v1)) 3) then
            some ((-1), μ)
          else
            chv (μ.1 (1 + (21 + 9 * ix v1)) 3) 9 <|
            lt (sti μ ((1 + (21 + 9 * ix v1)) + 2) (ix (μ.1 (1 + (21 + 9 * ix v1)) 3)) v2) fun μ4 =>
            lt (sti μ4 (1 + (21 + 9 * ix v1)) 3 ((μ4.1 (1 + (21 + 9 * ix v1)) 3) + (nI 1))) fun μ5 =>
            Nine_address_j91 (1 + (21 + 9 * ix v1)) μ5
def Nine_version (v1 : Int32) (v2 : Int32) (μ : Mm) : Option (Int32 × Mm) :=
  if v1 < 0 then
    some ((-1), μ)
  else
    if (nI 9) < v1 then
      some ((-1), μ)
    else
      if v2 < 0 then
        some ((-1), μ)
      else
        if (nI 1024) ≤ v2 then
          some ((-1), μ)
        else
          bnd (Versions_isFull 3 μ) fun r1 =>
          if r1 = 0 then
            bnd (Nine_forgetBefore μ) fun μ2 =>
            bnd2 (Versions_add 3 v1 v2 (-1) (-1) μ2) fun r4 μ3 =>
            some (r4, μ3)
          else
            some ((-1), μ)
def Nine_keepBefore (μ : Mm) : Option Mm :=
  chv (μ.1 0 9) 6 <|
  bnd (World_copyFrom (545 + 165 * ix (μ.1 0 9)) 1 μ) fun μ2 =>
  chk (¬ ((nI 6) : Int32) = 0) <|
  lt (sti μ2 0 9 (((μ2.1 0 9) + (nI 1)) - ((μ2.1 0 9) + (nI 1)) / (nI 6) * (nI 6))) fun μ3 =>
  lt (sti μ3 0 8 (jmin (nI 6) ((μ3.1 0 8) + (nI 1)))) fun μ4 =>
  some μ4
def Nine_hand (v1 : Int32) (v2 : Int32) (μ : Mm) : Option (Int32 × Mm) :=
  bnd (World_hasPerson 1 v1 μ) fun r1 =>
  if r1 = 0 then
    some ((nI 0), μ)
  else
    bnd (Versions_has 3 v2 μ) fun r2 =>
    if r2 = 0 then
      some ((nI 0), μ)
    else
      chv v1 16 <|
      chv (nI 1) 6 <|
      if (μ.1 ((1 + (21 + 9 * ix v1)) + 1) (ix (nI 1))) = (nI 1) then
        some ((nI 0), μ)
      else
        bnd (Letters_isFull ((1 + (21 + 9 * ix v1)) + 3) μ) fun r4 =>
        if r4 = 0 then
          bnd (Nine_keepBefore μ) fun μ5 =>
          bnd (World_give 1 v1 v2 (-1) μ5) fun μ6 =>
          some ((nI 1), μ6)
        else
          some ((nI 0), μ)
def Nine_burn (v1 : Int32) (v2 : Int32) (μ : Mm) : Option (Int32 × Mm) :=
  bnd (World_hasLetter 1 v1 v2 μ) fun r1 =>
  if r1 = 0 then
    some ((nI 0), μ)
  else
    bnd (Nine_keepBefore μ) fun μ2 =>
    chv v1 16 <|
    bnd (Letters_remove ((1 + (21 + 9 * ix v1)) + 3) v2 μ2) fun μ4 =>
    some ((nI 1), μ4)
def Nine_feed (v1 : Int32) (v2 : Int32) (v3 : Int32) (v4 : Int32) (v5 : Int32) (μ : Mm) : Option (Int32 × Mm) :=
  bnd2 (Reader_append 532 v1 v2 v3 v4 v5 μ) fun r2 μ1 =>
  some (r2, μ1)
def Nine_end (v1 : Int32) (μ : Mm) : Option (Int32 × Mm) :=
  if v1 < 0 then
    some ((nI 0), μ)
  else
    if v1 ≤ (μ.1 532 1) then
      lt (sti μ 532 1 v1) fun μ1 =>
      some ((nI 1), μ1)
    else
      some ((nI 0), μ)
def Nine_text_j84 (v2 : Int32) (μ : Mm) : Option (Int32 × Mm) :=
  lt (sti μ 532 1 (nI 0)) fun μ2 =>
  some (v2, μ2)
def Nine_text (v1 : Int32) (μ : Mm) : Option (Int32 × Mm) :=
  bnd (Reader_begin 532 μ) fun μ1 =>
  if v1 = 0 then
    bnd2 (Reader_readLaw 532 167 (nI 300) (nI 11) μ1) fun r8 μ7 =>
    Nine_text_j84 r8 μ7
  else
    if v1 = (nI 1) then
      bnd2 (Reader_readLaw 532 173 (nI 301) (nI 7) μ1) fun r6 μ5 =>
      Nine_text_j84 r6 μ5
    else
      if v1 = (nI 2) then
        bnd2 (Reader_readPost 532 179 μ1) fun r4 μ3 =>
        Nine_text_j84 r4 μ3
      else
        Nine_text_j84 (-1) μ1
def Nine_fault (v1 : Int32) (μ : Mm) : Option Int32 :=
  if v1 = (nI 0) then
    some (μ.1 532 2)
  else
    if v1 = (nI 1) then
      some (μ.1 532 3)
    else
      some (-1)
def Nine_days_j49 (v1 : Int32) (v2 : Int32) (v3 : Int32) (μ : Mm) : Option ((Int32 × Int32 × Mm) ⊕ (Int32 × Mm)) :=
  bnd2 (World_passDay 1 166 μ) fun r2 μ1 =>
  some (.inl ((v2 + r2), (v3 + (nI 1)), μ1))
def Nine_days_l32 (v1 : Int32) (v2 : Int32) (v3 : Int32) (μ : Mm) : Option ((Int32 × Int32 × Mm) ⊕ (Int32 × Mm)) :=
  if v1 ≤ v3 then
    some (.inr (v2, μ))
  else
    if (nI 6) < (v1 - v3) then
      Nine_days_j49 v1 v2 v3 μ
    else
      bnd (Nine_keepBefore μ) fun μ3 =>
      Nine_days_j49 v1 v2 v3 μ3
def Nine_days (v1 : Int32) (μ : Mm) : Option (Int32 × Mm) :=
  if v1 < (nI 1) then
    some ((-1), μ)
  else
    if (nI 60) < v1 then
      some ((-1), μ)
    else
      if ((μ.1 1 7) + v1) ≤ (nI 9999) then
        bni (iter 1000000 (fun s => Nine_days_l32 v1 s.1 s.2.1 s.2.2) ((nI 0), (nI 0), μ)) fun x32 =>
        some (x32.1, x32.2)
      else
        some ((-1), μ)
def Nine_of_j66 (v2 : Int32) (v3 : Nat) (μ : Mm) : Option Int32 :=
  if v2 = (nI 6) then
    some (μ.1 (v3 + 3) 5)
  else
    if v2 = (nI 7) then
      some (μ.1 v3 3)
    else
      if v2 = (nI 8) then
        some (μ.1 v3 4)
      else
        if v2 = (nI 9) then
          bnd (JL_bitCount (μ.2 v3 6)) fun r3 =>
          some r3
        else
          if v2 = (nI 10) then
            some (μ.1 v3 5)
          else
            some (-1)
def Nine_of_j50 (v2 : Int32) (v3 : Nat) (μ : Mm) : Option Int32 :=
  if v2 < 0 then
    Nine_of_j66 v2 v3 μ
  else
    if (nI 5) < v2 then
      Nine_of_j66 v2 v3 μ
    else
      chv v2 6 <|
      some (μ.1 (v3 + 1) (ix v2))
def Nine_of (v1 : Int32) (v2 : Int32) (μ : Mm) : Option Int32 :=
  bnd (World_hasPerson 1 v1 μ) fun r1 =>
  if r1 = 0 then
    some (-1)
  else
    chv v1 16 <|
    if v2 < (nI 20) then
      Nine_of_j50 v2 (1 + (21 + 9 * ix v1)) μ
    else
      if (μ.1 (1 + (21 + 9 * ix v1)) 3) ≤ (v2 - (nI 20)) then
        Nine_of_j50 v2 (1 + (21 + 9 * ix v1)) μ
      else
        chv (v2 - (nI 20)) 9 <|
        some (μ.1 ((1 + (21 + 9 * ix v1)) + 2) (ix (v2 - (nI 20))))
def Nine_letter (v1 : Int32) (v2 : Int32) (v3 : Int32) (μ : Mm) : Option (Int32 × Mm) :=
  bnd (World_hasLetter 1 v1 v2 μ) fun r1 =>
  if r1 = 0 then
    some ((-2), μ)
  else
    chv v1 16 <|
    if v3 = (nI 0) then
      chv v2 (sL SC ((1 + (21 + 9 * ix v1)) + 4)) <|
      some ((μ.1 ((1 + (21 + 9 * ix v1)) + 4) (ix v2)), μ)
    else
      if v3 = (nI 1) then
        chv v2 (sL SC ((1 + (21 + 9 * ix v1)) + 5)) <|
        some ((μ.1 ((1 + (21 + 9 * ix v1)) + 5) (ix v2)), μ)
      else
        if v3 = (nI 2) then
          chv v2 (sL SC ((1 + (21 + 9 * ix v1)) + 7)) <|
          some ((μ.1 ((1 + (21 + 9 * ix v1)) + 7) (ix v2)), μ)
        else
          if v3 = (nI 3) then
            chv v2 (sL SC ((1 + (21 + 9 * ix v1)) + 8)) <|
            some ((μ.1 ((1 + (21 + 9 * ix v1)) + 8) (ix v2)), μ)
          else
            if v3 = (nI 4) then
              bnd2 (World_copiesToWrite 1 v1 v2 167 μ) fun r4 μ3 =>
              some (r4, μ3)
            else
              if v3 = (nI 5) then
                bnd2 (World_illLuck 1 v1 v2 173 μ) fun r6 μ5 =>
                some (r6, μ5)
              else
                if v3 = (nI 6) then
                  bnd (World_leastStamps 1 v1 v2 179 μ) fun r7 =>
                  some (r7, μ)
                else
                  some ((-2), μ)
def Nine_onWay (v1 : Int32) (v2 : Int32) (μ : Mm) : Option Int32 :=
  bnd (Letters_has 8 v1 μ) fun r1 =>
  if r1 = 0 then
    some (-1)
  else
    if v2 = (nI 0) then
      chv v1 (sL SC 9) <|
      some (μ.1 9 (ix v1))
    else
      if v2 = (nI 1) then
        chv v1 (sL SC 10) <|
        some (μ.1 10 (ix v1))
      else
        if v2 = (nI 2) then
          chv v1 (sL SC 11) <|
          some (μ.1 11 (ix v1))
        else
          if v2 = (nI 3) then
            chv v1 (sL SC 12) <|
            some (μ.1 12 (ix v1))
          else
            some (-1)
def Nine_kind (v1 : Int32) (v2 : Int32) (μ : Mm) : Option Int32 :=
  bnd (Versions_has 3 v1 μ) fun r1 =>
  if r1 = 0 then
    some (-2)
  else
    if v2 = (nI 0) then
      chv v1 40 <|
      some (μ.1 4 (ix v1))
    else
      if v2 = (nI 1) then
        chv v1 40 <|
        some (μ.1 5 (ix v1))
      else
        if v2 = (nI 2) then
          chv v1 40 <|
          some (μ.1 6 (ix v1))
        else
          if v2 = (nI 3) then
            chv v1 40 <|
            some (μ.1 7 (ix v1))
          else
            if v2 = (nI 4) then
              bnd (Versions_countChildren 3 v1 μ) fun r2 =>
              some r2
            else
              if v2 = (nI 5) then
                bnd (World_countLettersOf 1 v1 μ) fun r3 =>
                some r3
              else
                if v2 = (nI 6) then
                  bnd (World_isKnown 1 v1 μ) fun r4 =>
                  if r4 = 0 then
                    some (nI 0)
                  else
                    some (nI 1)
                else
                  some (-2)
def Nine_post (v1 : Int32) (v2 : Int32) (μ : Mm) : Option Int32 :=
  bnd (Nine_canBeTold (nI 0) v1 μ) fun r1 =>
  if r1 = 0 then
    some (-1)
  else
    bnd (Nine_canBeTold (nI 0) v2 μ) fun r2 =>
    if r2 = 0 then
      some (-1)
    else
      bnd (Post_daysBetween 179 v1 v2 μ) fun r3 =>
      some r3
def Nine_book (v1 : Int32) (v2 : Int32) (μ : Mm) : Option Int32 :=
  if v1 < 0 then
    some (-2)
  else
    if v1 < (μ.1 14 5) then
      if v2 = (nI 0) then
        chv v1 200 <|
        some (μ.1 15 (ix v1))
      else
        if v2 = (nI 1) then
          chv v1 200 <|
          some (μ.1 16 (ix v1))
        else
          if v2 = (nI 2) then
            chv v1 200 <|
            some (μ.1 17 (ix v1))
          else
            if v2 = (nI 3) then
              chv v1 200 <|
              some (μ.1 18 (ix v1))
            else
              if v2 = (nI 4) then
                chv v1 200 <|
                some (μ.1 19 (ix v1))
              else
                some (-2)
    else
      some (-2)
def Nine_beginThought (μ : Mm) : Option Mm :=
  bnd (World_copyFrom 366 1 μ) fun μ1 =>
  chv (nI 2) 4 <|
  lt (sti μ1 385 (ix (nI 2)) (nI 0)) fun μ2 =>
  some μ2
def Nine_thinkAhead_l18 (v1 : Int32) (v2 : Int32) (μ : Mm) : Option ((Int32 × Mm) ⊕ Mm) :=
  if v1 ≤ v2 then
    some (.inr μ)
  else
    bnd2 (World_passDay 366 166 μ) fun r3 μ2 =>
    some (.inl ((v2 + (nI 1)), μ2))
def Nine_thinkAhead (v1 : Int32) (μ : Mm) : Option (Int32 × Mm) :=
  if v1 < 0 then
    some ((nI 0), μ)
  else
    if v1 ≤ (nI 99) then
      bnd (Nine_beginThought μ) fun μ1 =>
      bni (iter 1000000 (fun s => Nine_thinkAhead_l18 v1 s.1 s.2) ((nI 0), μ1)) fun x18 =>
      some ((nI 1), x18)
    else
      some ((nI 0), μ)
def Nine_many_j13 (v1 : Int32) (v2 : Int32) (μ : Mm) : Option (Int32 × Mm) :=
  bnd2 (Nine_thinkAhead v1 μ) fun r2 μ1 =>
  if r2 = 0 then
    some ((-1), μ1)
  else
    bnd (World_countHeld 366 v2 μ1) fun r3 =>
    some (r3, μ1)
def Nine_many (v1 : Int32) (v2 : Int32) (μ : Mm) : Option (Int32 × Mm) :=
  if v2 = (-1) then
    Nine_many_j13 v1 v2 μ
  else
    bnd (Nine_canBeTold (nI 0) v2 μ) fun r4 =>
    if r4 = 0 then
      some ((-1), μ)
    else
      Nine_many_j13 v1 v2 μ
def Nine_over_l6 (v1 : Int32) (μ : Mm) : Option ((Int32 × Mm) ⊕ ((Int32 × Mm) ⊕ Mm)) :=
  if (nI 200) < v1 then
    some (.inr (Sum.inr μ))
  else
    bnd (World_isOver 366 μ) fun r2 =>
    if r2 = 0 then
      bnd2 (World_passDay 366 166 μ) fun r4 μ3 =>
      some (.inl ((v1 + (nI 1)), μ3))
    else
      some (.inr (Sum.inl (v1, μ)))
def Nine_over (μ : Mm) : Option (Int32 × Mm) :=
  bnd (Nine_beginThought μ) fun μ1 =>
  bni (iter 1000000 (fun s => Nine_over_l6 s.1 s.2) ((nI 0), μ1)) fun x6 => 
  (Sum.elim (fun x6a =>
    some (x6a.1, x6a.2))
    (fun x6b =>
      some ((-1), x6b))) x6
def Nine_writerSlot_j39 (v0 : Int32) (v1 : Int32) (v2 : Int32) : Option ((Int32 × Int32) ⊕ Int32) :=
  some (.inl (v1, (v2 + (nI 1))))
def Nine_writerSlot_l16 (v0 : Int32) (v1 : Int32) (v2 : Int32) : Option ((Int32 × Int32) ⊕ Int32) :=
  if (nI 16) ≤ v2 then
    some (.inr v1)
  else
    bnd (Nine_hasBit v0 v2) fun r2 =>
    if r2 = 0 then
      Nine_writerSlot_j39 v0 v1 v2
    else
      Nine_writerSlot_j39 v0 (((v1 * (nI 17)) + v2) + (nI 1)) v2
def Nine_writerSlot (v0 : Int32) : Option Int32 :=
  bnd (JI_bitCount v0) fun r1 =>
  if r1 < (nI 3) then
    bni (iter 1000000 (fun s => Nine_writerSlot_l16 v0 s.1 s.2) ((nI 0), (nI 0))) fun x16 =>
    some x16
  else
    some (nI 289)
def Nine_endsWithout_j58 (v1 : Int32) (v2 : Int32) (v3 : Int32) (μ : Mm) : Option (Int32 ⊕ (Int32 ⊕ Unit)) :=
  some (.inl (v3 + (nI 1)))
def Nine_endsWithout_l2 (v1 : Int32) (v2 : Int32) (v3 : Int32) (μ : Mm) : Option (Int32 ⊕ (Int32 ⊕ Unit)) :=
  if (μ.1 1 1) ≤ v3 then
    some (.inr (Sum.inr ()))
  else
    bnd (Nine_hasBit v1 v3) fun r1 =>
    if r1 = 0 then
      Nine_endsWithout_j58 v1 v2 v3 μ
    else
      bnd (Nine_writerSlot (v1 ^^^ ((nI 1) <<< (v3 &&& 31)))) fun r2 =>
      chv r2 290 <|
      bnd (Nine_hasBit (μ.1 531 (ix r2)) v3) fun r3 =>
      if r3 = 0 then
        some (.inr (Sum.inl (μ.1 531 (ix r2))))
      else
        Nine_endsWithout_j58 v1 v2 v3 μ
def Nine_endsWithout_j104 (v1 : Int32) (v2 : Int32) (v3 : Int32) (μ : Mm) : Option ((Int32 × Mm) ⊕ Mm) :=
  some (.inl ((v3 + (nI 1)), μ))
def Nine_endsWithout_l70 (v1 : Int32) (v2 : Int32) (v3 : Int32) (μ : Mm) : Option ((Int32 × Mm) ⊕ Mm) :=
  if (μ.1 1 1) ≤ v3 then
    some (.inr μ)
  else
    bnd (Nine_hasBit v1 v3) fun r7 =>
    if r7 = 0 then
      Nine_endsWithout_j104 v1 v2 v3 μ
    else
      chv v3 16 <|
      chv (nI 5) 6 <|
      lt (sti μ ((366 + (21 + 9 * ix v3)) + 1) (ix (nI 5)) (nI 1)) fun μ9 =>
      Nine_endsWithout_j104 v1 v2 v3 μ9
def Nine_endsWithout_l112 (v1 : Int32) (v2 : Int32) (v3 : Int32) (μ : Mm) : Option ((Int32 × Mm) ⊕ Mm) :=
  if v2 ≤ v3 then
    some (.inr μ)
  else
    bnd (World_isOver 366 μ) fun r10 =>
    if r10 = 0 then
      bnd2 (World_passDay 366 166 μ) fun r12 μ11 =>
      some (.inl ((v3 + (nI 1)), μ11))
    else
      some (.inr μ)
def Nine_endsWithout_j145 (v1 : Int32) (μ : Mm) : Option (Int32 × Mm) :=
  bnd (Nine_writerSlot v1) fun r13 =>
  chv r13 290 <|
  lt (sti μ 531 (ix r13) (μ.1 366 11)) fun μ14 =>
  bnd (World_isOver 366 μ14) fun r15 =>
  chk (r15 = 0 ∨ r15 = 1) <|
  some (r15, μ14)
def Nine_endsWithout (v1 : Int32) (v2 : Int32) (μ : Mm) : Option (Int32 × Mm) :=
  bni (iter 1000000 (fun s => Nine_endsWithout_l2 v1 v2 s μ) (nI 0)) fun x2 => 
  (Sum.elim (fun x2a =>
    bnd (Nine_writerSlot v1) fun r4 =>
    chv r4 290 <|
    lt (sti μ 531 (ix r4) x2a) fun μ5 =>
    some ((nI 0), μ5))
    (fun x2b =>
      bnd (Nine_beginThought μ) fun μ6 =>
      bni (iter 1000000 (fun s => Nine_endsWithout_l70 v1 v2 s.1 s.2) ((nI 0), μ6)) fun x70 =>
      bni (iter 1000000 (fun s => Nine_endsWithout_l112 v1 v2 s.1 s.2) ((nI 0), x70)) fun x112 =>
      Nine_endsWithout_j145 v1 x112)) x2
def Nine_setBehind_j52  : Option Int32 :=
  some (-1)
def Nine_setBehind_j35 (v0 : Int32) (v1 : Int32) : Option Int32 :=
  bnd (JI_bitCount v0) fun r1 =>
  if (nI 3) < (r1 + (nI 1)) then
    Nine_setBehind_j52
  else
    if (r1 + (nI 1)) ≤ v1 then
      some (((nI 1) <<< ((r1 + (nI 1)) &&& 31)) - (nI 1))
    else
      Nine_setBehind_j52
def Nine_setBehind (v0 : Int32) (v1 : Int32) : Option Int32 :=
  if v0 = 0 then
    Nine_setBehind_j35 v0 v1
  else
    chk (¬ ((v0 &&& (-v0)) : Int32) = 0) <|
    lt ((v0 + (v0 &&& (-v0))) ||| (ushr ((v0 ^^^ (v0 + (v0 &&& (-v0)))) / (v0 &&& (-v0))) (nI 2))) fun u2 =>
    if ((nI 1) <<< (v1 &&& 31)) ≤ u2 then
      Nine_setBehind_j35 v0 v1
    else
      some u2
def Nine_stop_l16 (v1 : Int32) (v2 : Int32) (v3 : Int32) (μ : Mm) : Option ((Int32 × Int32 × Mm) ⊕ ((Int32 × Mm) ⊕ Mm)) :=
  if (nI 697) ≤ v3 then
    some (.inr (Sum.inr μ))
  else
    if v2 = (-1) then
      some (.inr (Sum.inr μ))
    else
      bnd2 (Nine_endsWithout v2 v1 μ) fun r2 μ1 =>
      if r2 = 0 then
        bnd (Nine_setBehind v2 (μ1.1 1 1)) fun r3 =>
        some (.inl (r3, (v3 + (nI 1)), μ1))
      else
        some (.inr (Sum.inl (v2, μ1)))
def Nine_stop (v1 : Int32) (μ : Mm) : Option (Int32 × Mm) :=
  if v1 < 0 then
    some ((-1), μ)
  else
    if v1 ≤ (nI 99) then
      bni (iter 1000000 (fun s => Nine_stop_l16 v1 s.1 s.2.1 s.2.2) ((nI 0), (nI 0), μ)) fun x16 => 
      (Sum.elim (fun x16a =>
        some (x16a.1, x16a.2))
        (fun x16b =>
          some ((-1), x16b))) x16
    else
      some ((-1), μ)
def Nine_reach (v1 : Int32) (μ : Mm) : Option Int32 :=
  bnd (World_hasPerson 1 v1 μ) fun r1 =>
  if r1 = 0 then
    some (-1)
  else
    bnd (World_reachedFrom 1 v1 (nI 16) μ) fun r2 =>
    some r2
def Nine_sources_j82 (v1 : Int32) (v2 : Int32) (v3 : Int32) (v4 : Int32) (μ : Mm) : Option ((Int32 × Int32) ⊕ Int32) :=
  some (.inl (v3, (v4 + (nI 1))))
def Nine_sources_l35 (v1 : Int32) (v2 : Int32) (v3 : Int32) (v4 : Int32) (μ : Mm) : Option ((Int32 × Int32) ⊕ Int32) :=
  if (μ.1 1 1) ≤ v4 then
    some (.inr v3)
  else
    bnd (World_reachedFrom 1 v4 v2 μ) fun r1 =>
    if (r1 &&& (v1 &&& (((nI 1) <<< (v4 &&& 31)) ^^^ (-1)))) = (v1 &&& (((nI 1) <<< (v4 &&& 31)) ^^^ (-1))) then
      Nine_sources_j82 v1 v2 (v3 ||| ((nI 1) <<< (v4 &&& 31))) v4 μ
    else
      Nine_sources_j82 v1 v2 v3 v4 μ
def Nine_sources (v1 : Int32) (v2 : Int32) (μ : Mm) : Option Int32 :=
  if v1 ≤ 0 then
    some (-1)
  else
    if ((nI 1) <<< ((μ.1 1 1) &&& 31)) ≤ v1 then
      some (-1)
    else
      if v2 < (nI 1) then
        some (-1)
      else
        if v2 ≤ (nI 15) then
          bni (iter 1000000 (fun s => Nine_sources_l35 v1 v2 s.1 s.2 μ) ((nI 0), (nI 0))) fun x35 =>
          some x35
        else
          some (-1)
def Nine_circle_l15 (v1 : Int32) (v2 : Int32) (μ : Mm) : Option (Int32 ⊕ (Int32 ⊕ Unit)) :=
  if (nI 16) < v2 then
    some (.inr (Sum.inr ()))
  else
    bnd (World_reachedFrom 1 v1 v2 μ) fun r2 =>
    bnd (Nine_hasBit r2 v1) fun r3 =>
    if r3 = 0 then
      some (.inl (v2 + (nI 1)))
    else
      some (.inr (Sum.inl v2))
def Nine_circle (v1 : Int32) (μ : Mm) : Option Int32 :=
  bnd (World_hasPerson 1 v1 μ) fun r1 =>
  if r1 = 0 then
    some (-1)
  else
    bni (iter 1000000 (fun s => Nine_circle_l15 v1 s μ) (nI 1)) fun x15 => 
    (Sum.elim (fun x15a =>
      some x15a)
      (fun x15b =>
        some (-1))) x15
def Nine_pick_j54 (μ : Mm) : Option (Int32 × Mm) :=
  some ((μ.1 181 1), μ)
def Nine_pick (v1 : Int32) (μ : Mm) : Option (Int32 × Mm) :=
  if v1 = (-1) then
    lt (sti μ 181 1 (nI 0)) fun μ4 =>
    Nine_pick_j54 μ4
  else
    bnd (Versions_has 3 v1 μ) fun r1 =>
    if r1 = 0 then
      some ((-1), μ)
    else
      bnd (Picks_canTake 181 v1 μ) fun r2 =>
      if r2 = 0 then
        some ((-1), μ)
      else
        bnd (Picks_take 181 v1 μ) fun μ3 =>
        Nine_pick_j54 μ3
def Nine_join (μ : Mm) : Option Int32 :=
  bnd (Picks_leastJoin 181 3 μ) fun r1 =>
  some r1
def Nine_forebear (v1 : Int32) (v2 : Int32) (μ : Mm) : Option Int32 :=
  bnd (Versions_has 3 v1 μ) fun r1 =>
  if r1 = 0 then
    some (-1)
  else
    bnd (Versions_has 3 v2 μ) fun r2 =>
    if r2 = 0 then
      some (-1)
    else
      bnd (Versions_commonForebear 3 v1 v2 μ) fun r3 =>
      some r3
def Nine_lasts (v1 : Int32) (μ : Mm) : Option (Int32 × Mm) :=
  bnd2 (Nine_thinkAhead v1 μ) fun r2 μ1 =>
  if r2 = 0 then
    some ((-1), μ1)
  else
    bnd (World_commonestCurse 366 μ1) fun r3 =>
    some (r3, μ1)
def Nine_knows_j52 (v1 : Int32) (v2 : Int32) (v3 : Int32) (μ : Mm) : Option ((Int32 × Int32) ⊕ Int32) :=
  some (.inl (v2, (v3 + (nI 1))))
def Nine_knows_l16 (v1 : Int32) (v2 : Int32) (v3 : Int32) (μ : Mm) : Option ((Int32 × Int32) ⊕ Int32) :=
  if (μ.1 1 1) ≤ v3 then
    some (.inr v2)
  else
    chv v3 16 <|
    bnd (JL_bitCount (μ.2 (1 + (21 + 9 * ix v3)) 6)) fun r2 =>
    if r2 < v1 then
      Nine_knows_j52 v1 v2 v3 μ
    else
      Nine_knows_j52 v1 (v2 ||| ((nI 1) <<< (v3 &&& 31))) v3 μ
def Nine_knows (v1 : Int32) (μ : Mm) : Option Int32 :=
  if v1 < 0 then
    some (-1)
  else
    if v1 ≤ (nI 40) then
      bni (iter 1000000 (fun s => Nine_knows_l16 v1 s.1 s.2 μ) ((nI 0), (nI 0))) fun x16 =>
      some x16
    else
      some (-1)
def Nine_undo (μ : Mm) : Option (Int32 × Mm) :=
  if (μ.1 0 8) = 0 then
    some ((nI 0), μ)
  else
    lt (sti μ 0 8 ((μ.1 0 8) - (nI 1))) fun μ1 =>
    chk (¬ ((nI 6) : Int32) = 0) <|
    lt (sti μ1 0 9 ((((μ1.1 0 9) + (nI 6)) - (nI 1)) - (((μ1.1 0 9) + (nI 6)) - (nI 1)) / (nI 6) * (nI 6))) fun μ2 =>
    chv (μ2.1 0 9) 6 <|
    bnd (World_copyFrom 1 (545 + 165 * ix (μ2.1 0 9)) μ2) fun μ4 =>
    bnd (Picks_keepBelow 181 (μ4.1 3 4) μ4) fun μ5 =>
    some ((nI 1), μ5)
def Nine_image (v1 : Int32) (μ : Mm) : Option (Int32 × Mm) :=
  if v1 = 0 then
    if (μ.1 0 6) = 0 then
      some ((nI 0), μ)
    else
      bnd (World_copyFrom 1 183 μ) fun μ1 =>
      bnd (Texts_copyFrom 166 348 μ1) fun μ2 =>
      bnd (Picks_copyFrom 181 363 μ2) fun μ3 =>
      bnd (Nine_forgetBefore μ3) fun μ4 =>
      some ((nI 1), μ4)
  else
    bnd (World_copyFrom 183 1 μ) fun μ5 =>
    bnd (Texts_copyFrom 348 166 μ5) fun μ6 =>
    bnd (Picks_copyFrom 363 181 μ6) fun μ7 =>
    lt (sti μ7 0 6 (nI 1)) fun μ8 =>
    some ((nI 1), μ8)
def Nine_look_j25 (v1 : Int32) (μ : Mm) : Option Int32 :=
  if v1 = (nI 0) then
    some (μ.1 1 1)
  else
    if v1 = (nI 1) then
      some (μ.1 3 4)
    else
      if v1 = (nI 2) then
        some (μ.1 1 7)
      else
        if v1 = (nI 3) then
          some (μ.1 8 5)
        else
          if v1 = (nI 4) then
            bnd (World_countHeld 1 (-1) μ) fun r1 =>
            some r1
          else
            if v1 = (nI 5) then
              some (μ.1 14 5)
            else
              if v1 = (nI 6) then
                some (μ.1 1 6)
              else
                if v1 = (nI 7) then
                  some (μ.1 1 8)
                else
                  if v1 = (nI 8) then
                    some (μ.1 1 9)
                  else
                    if v1 = (nI 9) then
                      some (μ.1 1 10)
                    else
                      if v1 = (nI 10) then
                        some (μ.1 167 6)
                      else
                        if v1 = (nI 11) then
                          some (μ.1 173 6)
                        else
                          if v1 = (nI 12) then
                            some (μ.1 179 1)
                          else
                            if v1 = (nI 13) then
                              some (μ.1 0 8)
                            else
                              if v1 = (nI 14) then
                                some (μ.1 181 1)
                              else
                                some (-1)
def Nine_look (v1 : Int32) (μ : Mm) : Option Int32 :=
  if v1 < (nI 20) then
    Nine_look_j25 v1 μ
  else
    if (nI 24) ≤ v1 then
      Nine_look_j25 v1 μ
    else
      chv (v1 - (nI 20)) 4 <|
      some (μ.1 20 (ix (v1 - (nI 20))))
def M_isIn (v1 : Int32) (v2 : Int32) (v3 : Int32) : Option Int32 :=
  if v1 < v2 then
    some (nI 0)
  else
    if v3 < v1 then
      some (nI 0)
    else
      some (nI 1)
def M_ones_l4 (v2 : Int32) (v3 : Int32) : Option ((Int32 × Int32) ⊕ Int32) :=
  if v3 = 0 then
    some (.inr v2)
  else
    some (.inl ((v2 + (nI 1)), (v3 &&& (v3 - (nI 1)))))
def M_ones (v1 : Int32) : Option Int32 :=
  bni (iter 1000000 (fun s => M_ones_l4 s.1 s.2) ((nI 0), v1)) fun x4 =>
  some x4
def M_keepsAhead_l57 (v1 : Int32) (μ : Mm) : Option ((Int32 × Mm) ⊕ Mm) :=
  if (nI 712) ≤ v1 then
    some (.inr μ)
  else
    chv v1 712 <|
    chv (((nI 712) * (μ.1 0 3)) + v1) 4272 <|
    lt (sti μ 2 (ix (((nI 712) * (μ.1 0 3)) + v1)) (μ.1 1 (ix v1))) fun μ1 =>
    some (.inl ((v1 + (nI 1)), μ1))
def M_keepsAhead_j55 (μ : Mm) : Option Mm :=
  bni (iter 1000000 (fun s => M_keepsAhead_l57 s.1 s.2) ((nI 0), μ)) fun x57 =>
  lt (sti x57 0 3 ((x57.1 0 3) + (nI 1))) fun μ2 =>
  some μ2
def M_keepsAhead_l21 (v1 : Int32) (μ : Mm) : Option ((Int32 × Mm) ⊕ Mm) :=
  if ((nI 712) * (μ.1 0 3)) ≤ v1 then
    some (.inr μ)
  else
    chv (v1 + (nI 712)) 4272 <|
    chv v1 4272 <|
    lt (sti μ 2 (ix v1) (μ.1 2 (ix (v1 + (nI 712))))) fun μ4 =>
    some (.inl ((v1 + (nI 1)), μ4))
def M_keepsAhead (μ : Mm) : Option Mm :=
  if (μ.1 0 3) = (nI 6) then
    lt (sti μ 0 3 ((μ.1 0 3) - (nI 1))) fun μ3 =>
    bni (iter 1000000 (fun s => M_keepsAhead_l21 s.1 s.2) ((nI 0), μ3)) fun x21 =>
    M_keepsAhead_j55 x21
  else
    M_keepsAhead_j55 μ
def M_unpicks_j47 (v1 : Int32) (v2 : Int32) (μ : Mm) : Option ((Int32 × Int32 × Mm) ⊕ (Int32 × Mm)) :=
  some (.inl (v1, (v2 + (nI 1)), μ))
def M_unpicks_l4 (v1 : Int32) (v2 : Int32) (μ : Mm) : Option ((Int32 × Int32 × Mm) ⊕ (Int32 × Mm)) :=
  if (μ.1 0 17) ≤ v2 then
    some (.inr (v1, μ))
  else
    chv v2 8 <|
    chv (nI 6) 712 <|
    if (μ.1 9 (ix v2)) < (μ.1 1 (ix (nI 6))) then
      chv v2 8 <|
      chv v1 8 <|
      lt (sti μ 9 (ix v1) (μ.1 9 (ix v2))) fun μ1 =>
      M_unpicks_j47 (v1 + (nI 1)) v2 μ1
    else
      M_unpicks_j47 v1 v2 μ
def M_unpicks (μ : Mm) : Option Mm :=
  bni (iter 1000000 (fun s => M_unpicks_l4 s.1 s.2.1 s.2.2) ((nI 0), (nI 0), μ)) fun x4 =>
  lt (sti x4.2 0 17 x4.1) fun μ2 =>
  some μ2
def M_undo_l26 (v1 : Int32) (μ : Mm) : Option ((Int32 × Mm) ⊕ Mm) :=
  if (nI 712) ≤ v1 then
    some (.inr μ)
  else
    chv (((nI 712) * (μ.1 0 3)) + v1) 4272 <|
    chv v1 712 <|
    lt (sti μ 1 (ix v1) (μ.1 2 (ix (((nI 712) * (μ.1 0 3)) + v1)))) fun μ3 =>
    some (.inl ((v1 + (nI 1)), μ3))
def M_undo (μ : Mm) : Option (Int32 × Mm) :=
  lt (sti μ 0 0 (nI 0)) fun μ1 =>
  if (μ1.1 0 3) = 0 then
    some ((nI 0), μ1)
  else
    lt (sti μ1 0 3 ((μ1.1 0 3) - (nI 1))) fun μ2 =>
    bni (iter 1000000 (fun s => M_undo_l26 s.1 s.2) ((nI 0), μ2)) fun x26 =>
    bnd (M_unpicks x26) fun μ4 =>
    some ((nI 1), μ4)
def M_thinks_l2 (v1 : Int32) (μ : Mm) : Option ((Int32 × Mm) ⊕ Mm) :=
  if (nI 712) ≤ v1 then
    some (.inr μ)
  else
    chv v1 712 <|
    chv v1 712 <|
    lt (sti μ 3 (ix v1) (μ.1 1 (ix v1))) fun μ1 =>
    some (.inl ((v1 + (nI 1)), μ1))
def M_thinks (μ : Mm) : Option Mm :=
  bni (iter 1000000 (fun s => M_thinks_l2 s.1 s.2) ((nI 0), μ)) fun x2 =>
  lt (sti x2 0 5 (nI 1)) fun μ2 =>
  some μ2
def M_thinksAnew_l2 (v1 : Int32) (μ : Mm) : Option ((Int32 × Mm) ⊕ Mm) :=
  if (nI 712) ≤ v1 then
    some (.inr μ)
  else
    chv v1 712 <|
    chv v1 712 <|
    lt (sti μ 1 (ix v1) (μ.1 3 (ix v1))) fun μ1 =>
    some (.inl ((v1 + (nI 1)), μ1))
def M_thinksAnew (μ : Mm) : Option Mm :=
  bni (iter 1000000 (fun s => M_thinksAnew_l2 s.1 s.2) ((nI 0), μ)) fun x2 =>
  some x2
def M_endsThought (μ : Mm) : Option Mm :=
  bnd (M_thinksAnew μ) fun μ1 =>
  lt (sti μ1 0 5 (nI 0)) fun μ2 =>
  some μ2
def M_state (v1 : Int32) (μ : Mm) : Option (Int32 × Mm) :=
  lt (sti μ 0 0 (nI 0)) fun μ1 =>
  chv (nI 1) 712 <|
  chv (nI 1) 712 <|
  lt (sti μ1 1 (ix (nI 1)) v1) fun μ2 =>
  lt (sti μ2 0 3 (nI 0)) fun μ3 =>
  some ((μ1.1 1 (ix (nI 1))), μ3)
def M_draw (v1 : Int32) (μ : Mm) : Option (Int32 × Mm) :=
  chv (nI 1) 712 <|
  chv (nI 1) 712 <|
  lt (sti μ 1 (ix (nI 1)) (((nI 1664525) * (μ.1 1 (ix (nI 1)))) + (nI 1013904223))) fun μ1 =>
  chv (nI 1) 712 <|
  chk (¬ (v1 : Int32) = 0) <|
  some (((ushr (μ1.1 1 (ix (nI 1))) (nI 8)) - (ushr (μ1.1 1 (ix (nI 1))) (nI 8)) / v1 * v1), μ1)
def M_isPerson (v1 : Int32) (μ : Mm) : Option Int32 :=
  if v1 < 0 then
    some (nI 0)
  else
    if (μ.1 0 6) ≤ v1 then
      some (nI 0)
    else
      some (nI 1)
def M_isVersion (v1 : Int32) (μ : Mm) : Option Int32 :=
  if v1 < 0 then
    some (nI 0)
  else
    chv (nI 6) 712 <|
    if (μ.1 1 (ix (nI 6))) ≤ v1 then
      some (nI 0)
    else
      some (nI 1)
def M_isStopped (v1 : Int32) (μ : Mm) : Option Int32 :=
  if (((μ.1 0 10) >>> (v1 &&& 31)) &&& (nI 1)) = (nI 1) then
    some (nI 1)
  else
    some (nI 0)
def M_person (v1 : Int32) (v2 : Int32) (v3 : Int32) (μ : Mm) : Option (Int32 × Mm) :=
  lt (sti μ 0 0 (nI 0)) fun μ1 =>
  bnd (M_isIn v1 (nI 0) (nI 5)) fun r2 =>
  if r2 = 0 then
    some ((-1), μ1)
  else
    bnd (M_isIn v2 (nI 0) (nI 2)) fun r3 =>
    if r3 = 0 then
      some ((-1), μ1)
    else
      bnd (M_isIn v3 (nI 0) (nI 99)) fun r4 =>
      if r4 = 0 then
        some ((-1), μ1)
      else
        if (μ1.1 0 6) = (nI 16) then
          some ((-1), μ1)
        else
          chv (μ1.1 0 6) 16 <|
          lt (sti μ1 4 (ix (μ1.1 0 6)) v1) fun μ5 =>
          chv (μ1.1 0 6) 16 <|
          lt (sti μ5 5 (ix (μ1.1 0 6)) v2) fun μ6 =>
          chv (μ1.1 0 6) 16 <|
          lt (sti μ6 6 (ix (μ1.1 0 6)) v3) fun μ7 =>
          lt (sti μ7 0 10 ((μ7.1 0 10) &&& (((nI 1) <<< ((μ1.1 0 6) &&& 31)) ^^^ (-1)))) fun μ8 =>
          chv (μ1.1 0 6) 16 <|
          lt (sti μ8 7 (ix (μ1.1 0 6)) (nI 0)) fun μ9 =>
          chv ((nI 167) + (μ1.1 0 6)) 712 <|
          lt (sti μ9 1 (ix ((nI 167) + (μ1.1 0 6))) (nI 0)) fun μ10 =>
          chv ((nI 183) + (μ1.1 0 6)) 712 <|
          lt (sti μ10 1 (ix ((nI 183) + (μ1.1 0 6))) (nI 0)) fun μ11 =>
          chv ((nI 199) + (μ1.1 0 6)) 712 <|
          lt (sti μ11 1 (ix ((nI 199) + (μ1.1 0 6))) (nI 0)) fun μ12 =>
          chv ((nI 215) + (μ1.1 0 6)) 712 <|
          lt (sti μ12 1 (ix ((nI 215) + (μ1.1 0 6))) (nI 0)) fun μ13 =>
          chv ((nI 231) + (μ1.1 0 6)) 712 <|
          lt (sti μ13 1 (ix ((nI 231) + (μ1.1 0 6))) (nI 0)) fun μ14 =>
          chv ((nI 247) + (μ1.1 0 6)) 712 <|
          lt (sti μ14 1 (ix ((nI 247) + (μ1.1 0 6))) (nI 0)) fun μ15 =>
          chv ((nI 263) + (μ1.1 0 6)) 712 <|
          lt (sti μ15 1 (ix ((nI 263) + (μ1.1 0 6))) (nI 0)) fun μ16 =>
          lt (sti μ16 0 6 ((μ16.1 0 6) + (nI 1))) fun μ17 =>
          lt (sti μ17 0 3 (nI 0)) fun μ18 =>
          some ((μ1.1 0 6), μ18)
def M_mostOf (v1 : Int32) : Option Int32 :=
  if v1 = 0 then
    some (nI 5)
  else
    if v1 = (nI 1) then
      some (nI 2)
    else
      if v1 = (nI 4) then
        some (nI 9999)
      else
        if v1 = (nI 5) then
          some (nI 1)
        else
          if v1 = (nI 9) then
            some (nI 1)
          else
            if v1 = (nI 6) then
              some (nI 9)
            else
              if v1 = (nI 7) then
                some (nI 20)
              else
                if v1 = (nI 8) then
                  some (nI 1000)
                else
                  some (nI 99)
def M_canSet_j46 (v1 : Int32) (s1 : Int32) (s2 : Int32) (μ : Mm) : Option Int32 :=
  bnd (M_mostOf v1) fun r2 =>
  bnd (M_isIn s1 s2 r2) fun r3 =>
  chk (r3 = 0 ∨ r3 = 1) <|
  some r3
def M_canSet_j41 (v1 : Int32) (s1 : Int32) (μ : Mm) : Option Int32 :=
  M_canSet_j46 v1 s1 (nI 1) μ
def M_canSet_j27 (v1 : Int32) (v3 : Int32) (μ : Mm) : Option Int32 :=
  if v1 = (nI 6) then
    M_canSet_j41 v1 v3 μ
  else
    if v1 = (nI 7) then
      M_canSet_j41 v1 v3 μ
    else
      M_canSet_j46 v1 v3 (nI 0) μ
def M_canSet (v1 : Int32) (v2 : Int32) (v3 : Int32) (μ : Mm) : Option Int32 :=
  bnd (M_isIn v1 (nI 0) (nI 9)) fun r1 =>
  if r1 = 0 then
    some (nI 0)
  else
    if (nI 6) ≤ v1 then
      M_canSet_j27 v1 v3 μ
    else
      bnd (M_isPerson v2 μ) fun r4 =>
      if r4 = 0 then
        some (nI 0)
      else
        M_canSet_j27 v1 v3 μ
def M_set_j157 (μ : Mm) : Option (Int32 × Mm) :=
  lt (sti μ 0 3 (nI 0)) fun μ3 =>
  some ((nI 1), μ3)
def M_set_j146 (v1 : Int32) (v3 : Int32) (μ : Mm) : Option (Int32 × Mm) :=
  if v1 = (nI 9) then
    lt (sti μ 0 16 v3) fun μ4 =>
    M_set_j157 μ4
  else
    M_set_j157 μ
def M_set_j135 (v1 : Int32) (v3 : Int32) (μ : Mm) : Option (Int32 × Mm) :=
  if v1 = (nI 8) then
    lt (sti μ 0 15 v3) fun μ5 =>
    M_set_j146 v1 v3 μ5
  else
    M_set_j146 v1 v3 μ
def M_set_j121 (v1 : Int32) (v3 : Int32) (μ : Mm) : Option (Int32 × Mm) :=
  if v1 = (nI 7) then
    lt (sti μ 0 14 (v3 - (nI 9))) fun μ6 =>
    M_set_j135 v1 v3 μ6
  else
    M_set_j135 v1 v3 μ
def M_set_j107 (v1 : Int32) (v3 : Int32) (μ : Mm) : Option (Int32 × Mm) :=
  if v1 = (nI 6) then
    lt (sti μ 0 13 (v3 - (nI 9))) fun μ7 =>
    M_set_j121 v1 v3 μ7
  else
    M_set_j121 v1 v3 μ
def M_set_j84 (v1 : Int32) (v2 : Int32) (v3 : Int32) (μ : Mm) : Option (Int32 × Mm) :=
  if v1 = (nI 5) then
    lt (sti μ 0 10 (((μ.1 0 10) &&& (((nI 1) <<< (v2 &&& 31)) ^^^ (-1))) ||| (v3 <<< (v2 &&& 31)))) fun μ8 =>
    M_set_j107 v1 v3 μ8
  else
    M_set_j107 v1 v3 μ
def M_set_j68 (v1 : Int32) (v2 : Int32) (v3 : Int32) (μ : Mm) : Option (Int32 × Mm) :=
  if v1 = (nI 4) then
    chv ((nI 199) + v2) 712 <|
    lt (sti μ 1 (ix ((nI 199) + v2)) v3) fun μ9 =>
    M_set_j84 v1 v2 v3 μ9
  else
    M_set_j84 v1 v2 v3 μ
def M_set_j52 (v1 : Int32) (v2 : Int32) (v3 : Int32) (μ : Mm) : Option (Int32 × Mm) :=
  if v1 = (nI 3) then
    chv ((nI 183) + v2) 712 <|
    lt (sti μ 1 (ix ((nI 183) + v2)) v3) fun μ10 =>
    M_set_j68 v1 v2 v3 μ10
  else
    M_set_j68 v1 v2 v3 μ
def M_set_j40 (v1 : Int32) (v2 : Int32) (v3 : Int32) (μ : Mm) : Option (Int32 × Mm) :=
  if v1 = (nI 2) then
    chv v2 16 <|
    lt (sti μ 6 (ix v2) v3) fun μ11 =>
    M_set_j52 v1 v2 v3 μ11
  else
    M_set_j52 v1 v2 v3 μ
def M_set_j28 (v1 : Int32) (v2 : Int32) (v3 : Int32) (μ : Mm) : Option (Int32 × Mm) :=
  if v1 = (nI 1) then
    chv v2 16 <|
    lt (sti μ 5 (ix v2) v3) fun μ12 =>
    M_set_j40 v1 v2 v3 μ12
  else
    M_set_j40 v1 v2 v3 μ
def M_set (v1 : Int32) (v2 : Int32) (v3 : Int32) (μ : Mm) : Option (Int32 × Mm) :=
  lt (sti μ 0 0 (nI 0)) fun μ1 =>
  bnd (M_canSet v1 v2 v3 μ1) fun r2 =>
  if r2 = 0 then
    some ((nI 0), μ1)
  else
    if v1 = 0 then
      chv v2 16 <|
      lt (sti μ1 4 (ix v2) v3) fun μ13 =>
      M_set_j28 v1 v2 v3 μ13
    else
      M_set_j28 v1 v2 v3 μ1
def M_address (v1 : Int32) (v2 : Int32) (μ : Mm) : Option (Int32 × Mm) :=
  lt (sti μ 0 0 (nI 0)) fun μ1 =>
  bnd (M_isPerson v1 μ1) fun r2 =>
  if r2 = 0 then
    some ((-1), μ1)
  else
    if v2 = (-1) then
      chv v1 16 <|
      lt (sti μ1 7 (ix v1) (nI 0)) fun μ7 =>
      chv ((nI 167) + v1) 712 <|
      lt (sti μ7 1 (ix ((nI 167) + v1)) (nI 0)) fun μ8 =>
      lt (sti μ8 0 3 (nI 0)) fun μ9 =>
      some ((nI 0), μ9)
    else
      bnd (M_isPerson v2 μ1) fun r3 =>
      if r3 = 0 then
        some ((-1), μ1)
      else
        if v2 = v1 then
          some ((-1), μ1)
        else
          chv v1 16 <|
          if (μ1.1 7 (ix v1)) = (nI 9) then
            some ((-1), μ1)
          else
            chv v1 16 <|
            chv (((nI 9) * v1) + (μ1.1 7 (ix v1))) 144 <|
            lt (sti μ1 8 (ix (((nI 9) * v1) + (μ1.1 7 (ix v1)))) v2) fun μ4 =>
            chv v1 16 <|
            chv v1 16 <|
            lt (sti μ4 7 (ix v1) ((μ4.1 7 (ix v1)) + (nI 1))) fun μ5 =>
            lt (sti μ5 0 3 (nI 0)) fun μ6 =>
            chv v1 16 <|
            some ((μ6.1 7 (ix v1)), μ6)
def M_comesVersion (v1 : Int32) (v2 : Int32) (v3 : Int32) (v4 : Int32) (μ : Mm) : Option (Int32 × Mm) :=
  chv (nI 6) 712 <|
  chv ((nI 7) + (μ.1 1 (ix (nI 6)))) 712 <|
  lt (sti μ 1 (ix ((nI 7) + (μ.1 1 (ix (nI 6))))) v1) fun μ1 =>
  chv ((nI 47) + (μ.1 1 (ix (nI 6)))) 712 <|
  lt (sti μ1 1 (ix ((nI 47) + (μ.1 1 (ix (nI 6))))) v2) fun μ2 =>
  chv ((nI 87) + (μ.1 1 (ix (nI 6)))) 712 <|
  lt (sti μ2 1 (ix ((nI 87) + (μ.1 1 (ix (nI 6))))) (v3 + (nI 1))) fun μ3 =>
  chv ((nI 127) + (μ.1 1 (ix (nI 6)))) 712 <|
  lt (sti μ3 1 (ix ((nI 127) + (μ.1 1 (ix (nI 6))))) (v4 + (nI 1))) fun μ4 =>
  chv (nI 6) 712 <|
  lt (sti μ4 1 (ix (nI 6)) ((μ.1 1 (ix (nI 6))) + (nI 1))) fun μ5 =>
  some ((μ.1 1 (ix (nI 6))), μ5)
def M_version (v1 : Int32) (v2 : Int32) (μ : Mm) : Option (Int32 × Mm) :=
  lt (sti μ 0 0 (nI 0)) fun μ1 =>
  bnd (M_isIn v1 (nI 0) (nI 9)) fun r2 =>
  if r2 = 0 then
    some ((-1), μ1)
  else
    bnd (M_isIn v2 (nI 0) (nI 1023)) fun r3 =>
    if r3 = 0 then
      some ((-1), μ1)
    else
      chv (nI 6) 712 <|
      if (μ1.1 1 (ix (nI 6))) = (nI 40) then
        some ((-1), μ1)
      else
        lt (sti μ1 0 3 (nI 0)) fun μ4 =>
        bnd2 (M_comesVersion v1 v2 (-1) (-1) μ4) fun r6 μ5 =>
        some (r6, μ5)
def M_letterAt (v1 : Int32) (v2 : Int32) : Option Int32 :=
  some ((nI 279) + ((nI 4) * (((nI 3) * v1) + v2)))
def M_hasLetter (v1 : Int32) (v2 : Int32) (μ : Mm) : Option Int32 :=
  bnd (M_isPerson v1 μ) fun r1 =>
  if r1 = 0 then
    some (nI 0)
  else
    chv ((nI 263) + v1) 712 <|
    bnd (M_isIn v2 (nI 0) ((μ.1 1 (ix ((nI 263) + v1))) - (nI 1))) fun r2 =>
    if r2 = 0 then
      some (nI 0)
    else
      some (nI 1)
def M_holds (v1 : Int32) (v2 : Int32) (v3 : Int32) (μ : Mm) : Option Mm :=
  chv ((nI 263) + v1) 712 <|
  bnd (M_letterAt v1 (μ.1 1 (ix ((nI 263) + v1)))) fun r1 =>
  chv (r1 + (nI 0)) 712 <|
  lt (sti μ 1 (ix (r1 + (nI 0))) v2) fun μ2 =>
  chv (r1 + (nI 1)) 712 <|
  lt (sti μ2 1 (ix (r1 + (nI 1))) (v3 + (nI 1))) fun μ3 =>
  chv (nI 0) 712 <|
  chv (r1 + (nI 2)) 712 <|
  lt (sti μ3 1 (ix (r1 + (nI 2))) (((μ3.1 1 (ix (nI 0))) + (μ3.1 0 14)) + (nI 9))) fun μ4 =>
  chv (r1 + (nI 3)) 712 <|
  lt (sti μ4 1 (ix (r1 + (nI 3))) ((μ4.1 0 13) + (nI 9))) fun μ5 =>
  chv ((nI 263) + v1) 712 <|
  chv ((nI 263) + v1) 712 <|
  lt (sti μ5 1 (ix ((nI 263) + v1)) ((μ5.1 1 (ix ((nI 263) + v1))) + (nI 1))) fun μ6 =>
  if (nI 20) ≤ v2 then
    chv ((nI 231) + v1) 712 <|
    chv ((nI 231) + v1) 712 <|
    lt (sti μ6 1 (ix ((nI 231) + v1)) ((μ6.1 1 (ix ((nI 231) + v1))) ||| ((nI 1) <<< ((v2 - (nI 20)) &&& 31)))) fun μ7 =>
    some μ7
  else
    chv ((nI 215) + v1) 712 <|
    chv ((nI 215) + v1) 712 <|
    lt (sti μ6 1 (ix ((nI 215) + v1)) ((μ6.1 1 (ix ((nI 215) + v1))) ||| ((nI 1) <<< (v2 &&& 31)))) fun μ8 =>
    some μ8
def M_loses_l41 (v1 : Int32) (v3 : Int32) (v4 : Int32) (μ : Mm) : Option ((Int32 × Mm) ⊕ Mm) :=
  if (nI 4) ≤ v4 then
    some (.inr μ)
  else
    bnd (M_letterAt v1 v3) fun r2 =>
    bnd (M_letterAt v1 (v3 + (nI 1))) fun r3 =>
    chv (r3 + v4) 712 <|
    chv (r2 + v4) 712 <|
    lt (sti μ 1 (ix (r2 + v4)) (μ.1 1 (ix (r3 + v4)))) fun μ4 =>
    some (.inl ((v4 + (nI 1)), μ4))
def M_loses_l24 (v1 : Int32) (v3 : Int32) (μ : Mm) : Option ((Int32 × Mm) ⊕ Mm) :=
  chv ((nI 263) + v1) 712 <|
  if (μ.1 1 (ix ((nI 263) + v1))) ≤ v3 then
    some (.inr μ)
  else
    bni (iter 1000000 (fun s => M_loses_l41 v1 v3 s.1 s.2) ((nI 0), μ)) fun x41 =>
    some (.inl ((v3 + (nI 1)), x41))
def M_loses (v1 : Int32) (v2 : Int32) (μ : Mm) : Option Mm :=
  chv ((nI 263) + v1) 712 <|
  chv ((nI 263) + v1) 712 <|
  lt (sti μ 1 (ix ((nI 263) + v1)) ((μ.1 1 (ix ((nI 263) + v1))) - (nI 1))) fun μ1 =>
  bni (iter 1000000 (fun s => M_loses_l24 v1 s.1 s.2) (v2, μ1)) fun x24 =>
  some x24
def M_hand (v1 : Int32) (v2 : Int32) (μ : Mm) : Option (Int32 × Mm) :=
  lt (sti μ 0 0 (nI 0)) fun μ1 =>
  bnd (M_isPerson v1 μ1) fun r2 =>
  if r2 = 0 then
    some ((nI 0), μ1)
  else
    bnd (M_isVersion v2 μ1) fun r3 =>
    if r3 = 0 then
      some ((nI 0), μ1)
    else
      chv v1 16 <|
      if (μ1.1 5 (ix v1)) = (nI 1) then
        some ((nI 0), μ1)
      else
        chv ((nI 263) + v1) 712 <|
        if (μ1.1 1 (ix ((nI 263) + v1))) = (nI 3) then
          some ((nI 0), μ1)
        else
          bnd (M_keepsAhead μ1) fun μ4 =>
          bnd (M_holds v1 v2 (-1) μ4) fun μ5 =>
          some ((nI 1), μ5)
def M_burn (v1 : Int32) (v2 : Int32) (μ : Mm) : Option (Int32 × Mm) :=
  lt (sti μ 0 0 (nI 0)) fun μ1 =>
  bnd (M_hasLetter v1 v2 μ1) fun r2 =>
  if r2 = 0 then
    some ((nI 0), μ1)
  else
    bnd (M_keepsAhead μ1) fun μ3 =>
    bnd (M_loses v1 v2 μ3) fun μ4 =>
    some ((nI 1), μ4)
def M_types_l3 (v1 : Int32) (v2 : Int32) (μ : Mm) : Option ((Int32 × Mm) ⊕ Mm) :=
  if v2 < 0 then
    some (.inr μ)
  else
    chv (μ.1 0 21) 400 <|
    lt (sti μ 11 (ix (μ.1 0 21)) ((v1 >>> (v2 &&& 31)) &&& (nI 255))) fun μ1 =>
    lt (sti μ1 0 21 ((μ1.1 0 21) + (nI 1))) fun μ2 =>
    some (.inl ((v2 + (-8)), μ2))
def M_types (v1 : Int32) (μ : Mm) : Option Mm :=
  bni (iter 1000000 (fun s => M_types_l3 v1 s.1 s.2) ((nI 24), μ)) fun x3 =>
  some x3
def M_feed (v1 : Int32) (v2 : Int32) (v3 : Int32) (v4 : Int32) (v5 : Int32) (μ : Mm) : Option (Int32 × Mm) :=
  lt (sti μ 0 0 (nI 0)) fun μ1 =>
  if (μ1.1 0 21) ≤ (nI 380) then
    bnd (M_types v1 μ1) fun μ2 =>
    bnd (M_types v2 μ2) fun μ3 =>
    bnd (M_types v3 μ3) fun μ4 =>
    bnd (M_types v4 μ4) fun μ5 =>
    bnd (M_types v5 μ5) fun μ6 =>
    some ((μ6.1 0 21), μ6)
  else
    some ((-1), μ1)
def M_end (v1 : Int32) (μ : Mm) : Option (Int32 × Mm) :=
  lt (sti μ 0 0 (nI 0)) fun μ1 =>
  bnd (M_isIn v1 (nI 0) (μ1.1 0 21)) fun r2 =>
  if r2 = 0 then
    some ((nI 0), μ1)
  else
    lt (sti μ1 0 21 v1) fun μ3 =>
    some ((nI 1), μ3)
def M_raw (v1 : Int32) (μ : Mm) : Option Int32 :=
  if (μ.1 0 21) ≤ v1 then
    some (-1)
  else
    chv v1 400 <|
    some (μ.1 11 (ix v1))
def M_isLetter_j24  : Option Int32 :=
  some (nI 1)
def M_isLetter (v1 : Int32) : Option Int32 :=
  bnd (M_isIn v1 (nI 97) (nI 122)) fun r1 =>
  if r1 = 0 then
    bnd (M_isIn v1 (nI 65) (nI 90)) fun r2 =>
    if r2 = 0 then
      some (nI 0)
    else
      M_isLetter_j24
  else
    M_isLetter_j24
def M_isDigit (v1 : Int32) : Option Int32 :=
  bnd (M_isIn v1 (nI 48) (nI 57)) fun r1 =>
  chk (r1 = 0 ∨ r1 = 1) <|
  some r1
def M_isMarkSign_j60  : Option Int32 :=
  some (nI 1)
def M_isMarkSign (v1 : Int32) : Option Int32 :=
  if v1 = (nI 59) then
    M_isMarkSign_j60
  else
    if v1 = (nI 43) then
      M_isMarkSign_j60
    else
      if v1 = (nI 45) then
        M_isMarkSign_j60
      else
        if v1 = (nI 42) then
          M_isMarkSign_j60
        else
          if v1 = (nI 47) then
            M_isMarkSign_j60
          else
            if v1 = (nI 40) then
              M_isMarkSign_j60
            else
              if v1 = (nI 41) then
                M_isMarkSign_j60
              else
                if v1 = (nI 60) then
                  M_isMarkSign_j60
                else
                  if v1 = (nI 61) then
                    M_isMarkSign_j60
                  else
                    if v1 = (nI 62) then
                      M_isMarkSign_j60
                    else
                      some (nI 0)
def M_wordAt_l19 (v1 : Int32) (v2 : Int32) (v3 : Int32) (v4 : Int32) (v5 : Int32) (μ : Mm) : Option (Int32 ⊕ Int32) :=
  if v2 ≤ (v1 + v5) then
    some (.inr v5)
  else
    chv ((v4 + (nI 1)) + v5) 97 <|
    chv (v1 + v5) 400 <|
    if (μ.1 12 (ix ((v4 + (nI 1)) + v5))) = (μ.1 11 (ix (v1 + v5))) then
      some (.inl (v5 + (nI 1)))
    else
      some (.inr v5)
def M_wordAt_l93 (v1 : Int32) (v2 : Int32) (v3 : Int32) (v4 : Int32) (μ : Mm) : Option (Int32 ⊕ Int32) :=
  chv v4 97 <|
  if (μ.1 12 (ix v4)) = (nI 32) then
    some (.inr v4)
  else
    some (.inl (v4 + (nI 1)))
def M_wordAt_j87 (v1 : Int32) (v2 : Int32) (v3 : Int32) (v4 : Int32) (μ : Mm) : Option ((Int32 × Int32) ⊕ (Int32 ⊕ Unit)) :=
  bni (iter 1000000 (fun s => M_wordAt_l93 v1 v2 v3 s μ) (v4 + (nI 1))) fun x93 =>
  some (.inl (v3, x93))
def M_wordAt_j60 (v1 : Int32) (v2 : Int32) (v3 : Int32) (v4 : Int32) (v5 : Int32) (μ : Mm) : Option ((Int32 × Int32) ⊕ (Int32 ⊕ Unit)) :=
  if (v1 + v5) = v2 then
    chv ((v4 + (nI 1)) + v5) 97 <|
    if (μ.1 12 (ix ((v4 + (nI 1)) + v5))) = (nI 32) then
      some (.inr (Sum.inl v3))
    else
      M_wordAt_j87 v1 v2 v3 v4 μ
  else
    M_wordAt_j87 v1 v2 v3 v4 μ
def M_wordAt_l5 (v1 : Int32) (v2 : Int32) (v3 : Int32) (v4 : Int32) (μ : Mm) : Option ((Int32 × Int32) ⊕ (Int32 ⊕ Unit)) :=
  if (nI 96) ≤ v4 then
    some (.inr (Sum.inr ()))
  else
    bni (iter 1000000 (fun s => M_wordAt_l19 v1 v2 (v3 + (nI 1)) v4 s μ) (nI 0)) fun x19 =>
    M_wordAt_j60 v1 v2 (v3 + (nI 1)) v4 x19 μ
def M_wordAt (v1 : Int32) (v2 : Int32) (μ : Mm) : Option Int32 :=
  bni (iter 1000000 (fun s => M_wordAt_l5 v1 v2 s.1 s.2 μ) ((-1), (nI 0))) fun x5 => 
  (Sum.elim (fun x5a =>
    some x5a)
    (fun x5b =>
      some (-1))) x5
def M_reads_j26 (μ : Mm) : Option (Mm ⊕ Mm) :=
  lt (sti μ 0 22 ((μ.1 0 22) + (nI 1))) fun μ2 =>
  some (.inl μ2)
def M_reads_l0 (μ : Mm) : Option (Mm ⊕ Mm) :=
  bnd (M_raw (μ.1 0 22) μ) fun r1 =>
  if r1 = (nI 32) then
    M_reads_j26 μ
  else
    bnd (M_raw (μ.1 0 22) μ) fun r3 =>
    if r3 = (nI 10) then
      M_reads_j26 μ
    else
      some (.inr μ)
def M_reads_j223 (s1 : Int32) (μ : Mm) : Option (Mm ⊕ Mm) :=
  lt (sti μ 0 25 s1) fun μ16 =>
  lt (sti μ16 0 22 ((μ16.1 0 22) + (nI 1))) fun μ17 =>
  some (.inl μ17)
def M_reads_l171 (μ : Mm) : Option (Mm ⊕ Mm) :=
  bnd (M_raw (μ.1 0 22) μ) fun r14 =>
  bnd (M_isDigit r14) fun r15 =>
  if r15 = 0 then
    some (.inr μ)
  else
    if (nI 10000) ≤ (μ.1 0 25) then
      M_reads_j223 (μ.1 0 25) μ
    else
      bnd (M_raw (μ.1 0 22) μ) fun r18 =>
      M_reads_j223 ((((nI 10) * (μ.1 0 25)) + r18) - (nI 48)) μ
def M_reads_l95 (μ : Mm) : Option (Mm ⊕ Mm) :=
  bnd (M_raw (μ.1 0 22) μ) fun r20 =>
  bnd (M_isLetter r20) fun r21 =>
  if r21 = 0 then
    some (.inr μ)
  else
    lt (sti μ 0 22 ((μ.1 0 22) + (nI 1))) fun μ22 =>
    some (.inl μ22)
def M_reads (μ : Mm) : Option Mm :=
  bni (iter 1000000 (fun s => M_reads_l0 s) μ) fun x0 =>
  lt (sti x0 0 23 (x0.1 0 22)) fun μ4 =>
  lt (sti μ4 0 24 (nI 1)) fun μ5 =>
  bnd (M_raw (μ5.1 0 22) μ5) fun r6 =>
  if r6 = (-1) then
    lt (sti μ5 0 24 (nI 0)) fun μ26 =>
    some μ26
  else
    lt (sti μ5 0 22 ((μ5.1 0 22) + (nI 1))) fun μ7 =>
    lt (sti μ7 0 25 r6) fun μ8 =>
    bnd (M_isLetter r6) fun r9 =>
    if r9 = 0 then
      bnd (M_isDigit r6) fun r10 =>
      if r10 = 0 then
        bnd (M_isMarkSign r6) fun r11 =>
        if r11 = 0 then
          some μ8
        else
          lt (sti μ8 0 24 (nI 4)) fun μ12 =>
          some μ12
      else
        lt (sti μ8 0 25 (r6 - (nI 48))) fun μ13 =>
        bni (iter 1000000 (fun s => M_reads_l171 s) μ13) fun x171 =>
        if (nI 5) ≤ ((x171.1 0 22) - (x171.1 0 23)) then
          some x171
        else
          lt (sti x171 0 24 (nI 3)) fun μ19 =>
          some μ19
    else
      bni (iter 1000000 (fun s => M_reads_l95 s) μ8) fun x95 =>
      bnd (M_wordAt (x95.1 0 23) (x95.1 0 22) x95) fun r23 =>
      lt (sti x95 0 25 r23) fun μ24 =>
      if (μ24.1 0 25) = (-1) then
        some μ24
      else
        lt (sti μ24 0 24 (nI 2)) fun μ25 =>
        some μ25
def M_errs (v1 : Int32) (μ : Mm) : Option (Int32 × Mm) :=
  lt (sti μ 0 38 v1) fun μ1 =>
  lt (sti μ1 0 39 (μ1.1 0 23)) fun μ2 =>
  some ((-1), μ2)
def M_isWord (v1 : Int32) (μ : Mm) : Option Int32 :=
  if (μ.1 0 24) = (nI 2) then
    if (μ.1 0 25) = v1 then
      some (nI 1)
    else
      some (nI 0)
  else
    some (nI 0)
def M_isSign (v1 : Int32) (μ : Mm) : Option Int32 :=
  if (μ.1 0 24) = (nI 4) then
    if (μ.1 0 25) = v1 then
      some (nI 1)
    else
      some (nI 0)
  else
    some (nI 0)
def M_emits (v1 : Int32) (v2 : Int32) (μ : Mm) : Option Mm :=
  chv ((nI 800) + (μ.1 0 34)) 1200 <|
  lt (sti μ 17 (ix ((nI 800) + (μ.1 0 34))) v1) fun μ1 =>
  chv ((nI 800) + (μ1.1 0 34)) 1200 <|
  lt (sti μ1 18 (ix ((nI 800) + (μ1.1 0 34))) v2) fun μ2 =>
  lt (sti μ2 0 34 ((μ2.1 0 34) + (nI 1))) fun μ3 =>
  some μ3
def M_canAsk_j18 (s1 : Int32) (s2 : Int32) (s3 : Int32) (μ : Mm) : Option Int32 :=
  bnd (M_isIn s1 s2 s3) fun r1 =>
  chk (r1 = 0 ∨ r1 = 1) <|
  some r1
def M_canAsk (v1 : Int32) (μ : Mm) : Option Int32 :=
  if (μ.1 0 33) = 0 then
    M_canAsk_j18 v1 (nI 6) (nI 16) μ
  else
    M_canAsk_j18 v1 (nI 6) (nI 12) μ
def M_readUnit_j71 (s1 : Int32) (s2 : Int32) (μ : Mm) : Option (Int32 × Mm) :=
  bnd (M_emits s1 s2 μ) fun μ1 =>
  bnd (M_reads μ1) fun μ2 =>
  some ((nI 0), μ2)
def M_readUnit_j53 (v1 : Int32) (s1 : Int32) (μ : Mm) : Option (Int32 × Mm) :=
  if v1 = 0 then
    M_readUnit_j71 s1 (μ.1 0 25) μ
  else
    M_readUnit_j71 s1 ((μ.1 0 25) - (nI 6)) μ
def M_readUnit_j43 (v1 : Int32) (μ : Mm) : Option (Int32 × Mm) :=
  if v1 = 0 then
    M_readUnit_j53 v1 (nI 0) μ
  else
    M_readUnit_j53 v1 (nI 1) μ
def M_readUnit_j24 (s0 : Int32) (μ : Mm) : Option (Int32 × Mm) :=
  if s0 = 0 then
    if (μ.1 0 24) = (nI 3) then
      M_readUnit_j43 s0 μ
    else
      bnd2 (M_errs (nI 1) μ) fun r4 μ3 =>
      some (r4, μ3)
  else
    M_readUnit_j43 s0 μ
def M_readUnit_j23 (μ : Mm) : Option (Int32 × Mm) :=
  M_readUnit_j24 (nI 0) μ
def M_readUnit (μ : Mm) : Option (Int32 × Mm) :=
  if (μ.1 0 24) = (nI 2) then
    bnd (M_canAsk (μ.1 0 25) μ) fun r5 =>
    if r5 = 0 then
      M_readUnit_j23 μ
    else
      M_readUnit_j24 (nI 1) μ
  else
    M_readUnit_j23 μ
def M_readProduct_j94 (s1 : Int32) (μ : Mm) : Option (Mm ⊕ (Mm ⊕ (Mm ⊕ (Mm ⊕ Mm)))) :=
  bnd (M_emits s1 (nI 0) μ) fun μ8 =>
  some (.inl μ8)
def M_readProduct_j74 (v1 : Int32) (μ : Mm) : Option (Mm ⊕ (Mm ⊕ (Mm ⊕ (Mm ⊕ Mm)))) :=
  bnd2 (M_readUnit μ) fun r7 μ6 =>
  if r7 = (-1) then
    some (.inr (Sum.inr (Sum.inr (Sum.inl μ6))))
  else
    if v1 = 0 then
      M_readProduct_j94 (nI 5) μ6
    else
      M_readProduct_j94 (nI 4) μ6
def M_readProduct_j57 (v1 : Int32) (μ : Mm) : Option (Mm ⊕ (Mm ⊕ (Mm ⊕ (Mm ⊕ Mm)))) :=
  if v1 = 0 then
    if (μ.1 0 25) = 0 then
      some (.inr (Sum.inr (Sum.inl μ)))
    else
      M_readProduct_j74 v1 μ
  else
    M_readProduct_j74 v1 μ
def M_readProduct_j28 (μ : Mm) : Option (Mm ⊕ (Mm ⊕ (Mm ⊕ (Mm ⊕ Mm)))) :=
  bnd (M_isSign (nI 42) μ) fun r4 =>
  bnd (M_reads μ) fun μ5 =>
  if r4 = 0 then
    if (μ5.1 0 24) = (nI 3) then
      M_readProduct_j57 r4 μ5
    else
      some (.inr (Sum.inl μ5))
  else
    M_readProduct_j57 r4 μ5
def M_readProduct_l10 (μ : Mm) : Option (Mm ⊕ (Mm ⊕ (Mm ⊕ (Mm ⊕ Mm)))) :=
  bnd (M_isSign (nI 42) μ) fun r3 =>
  if r3 = 0 then
    bnd (M_isSign (nI 47) μ) fun r9 =>
    if r9 = 0 then
      some (.inr (Sum.inr (Sum.inr (Sum.inr μ))))
    else
      M_readProduct_j28 μ
  else
    M_readProduct_j28 μ
def M_readProduct (μ : Mm) : Option (Int32 × Mm) :=
  bnd2 (M_readUnit μ) fun r2 μ1 =>
  if r2 = (-1) then
    some ((-1), μ1)
  else
    bni (iter 1000000 (fun s => M_readProduct_l10 s) μ1) fun x10 => 
    (Sum.elim (fun x10a =>
      bnd2 (M_errs (nI 1) x10a) fun r11 μ10 =>
      some (r11, μ10))
      (Sum.elim (fun x10b =>
        bnd2 (M_errs (nI 2) x10b) fun r13 μ12 =>
        some (r13, μ12))
        (Sum.elim (fun x10c =>
          some ((-1), x10c))
          (fun x10d =>
            some ((nI 0), x10d))))) x10
def M_readSum_j42 (s0 : Int32) (μ : Mm) : Option (Mm ⊕ (Mm ⊕ Mm)) :=
  bnd (M_reads μ) fun μ4 =>
  bnd2 (M_readProduct μ4) fun r6 μ5 =>
  if r6 = (-1) then
    some (.inr (Sum.inl μ5))
  else
    bnd (M_emits s0 (nI 0) μ5) fun μ7 =>
    some (.inl μ7)
def M_readSum_j28 (μ : Mm) : Option (Mm ⊕ (Mm ⊕ Mm)) :=
  if (μ.1 0 25) = (nI 43) then
    M_readSum_j42 (nI 2) μ
  else
    M_readSum_j42 (nI 3) μ
def M_readSum_l10 (μ : Mm) : Option (Mm ⊕ (Mm ⊕ Mm)) :=
  bnd (M_isSign (nI 43) μ) fun r3 =>
  if r3 = 0 then
    bnd (M_isSign (nI 45) μ) fun r8 =>
    if r8 = 0 then
      some (.inr (Sum.inr μ))
    else
      M_readSum_j28 μ
  else
    M_readSum_j28 μ
def M_readSum (μ : Mm) : Option (Int32 × Mm) :=
  bnd2 (M_readProduct μ) fun r2 μ1 =>
  if r2 = (-1) then
    some ((-1), μ1)
  else
    bni (iter 1000000 (fun s => M_readSum_l10 s) μ1) fun x10 => 
    (Sum.elim (fun x10a =>
      some ((-1), x10a))
      (fun x10b =>
        some ((nI 0), x10b))) x10
def M_readCompared_j73 (s0 : Int32) (μ : Mm) : Option (Int32 × Mm) :=
  bnd (M_reads μ) fun μ4 =>
  bnd2 (M_readSum μ4) fun r6 μ5 =>
  if r6 = (-1) then
    some ((-1), μ5)
  else
    bnd (M_emits s0 (nI 0) μ5) fun μ7 =>
    some ((nI 0), μ7)
def M_readCompared_j43 (μ : Mm) : Option (Int32 × Mm) :=
  if (μ.1 0 25) = (nI 60) then
    M_readCompared_j73 (nI 6) μ
  else
    if (μ.1 0 25) = (nI 61) then
      M_readCompared_j73 (nI 7) μ
    else
      M_readCompared_j73 (nI 8) μ
def M_readCompared (μ : Mm) : Option (Int32 × Mm) :=
  bnd2 (M_readSum μ) fun r2 μ1 =>
  if r2 = (-1) then
    some ((-1), μ1)
  else
    bnd (M_isSign (nI 60) μ1) fun r3 =>
    if r3 = 0 then
      bnd (M_isSign (nI 61) μ1) fun r8 =>
      if r8 = 0 then
        bnd (M_isSign (nI 62) μ1) fun r9 =>
        if r9 = 0 then
          bnd2 (M_errs (nI 1) μ1) fun r11 μ10 =>
          some (r11, μ10)
        else
          M_readCompared_j43 μ1
      else
        M_readCompared_j43 μ1
    else
      M_readCompared_j43 μ1
def M_waits (v1 : Int32) (μ : Mm) : Option Mm :=
  chv (μ.1 0 37) 40 <|
  lt (sti μ 19 (ix (μ.1 0 37)) v1) fun μ1 =>
  lt (sti μ1 0 37 ((μ1.1 0 37) + (nI 1))) fun μ2 =>
  some μ2
def M_settles_l0 (v1 : Int32) (μ : Mm) : Option (Mm ⊕ Mm) :=
  if (μ.1 0 37) ≤ 0 then
    some (.inr μ)
  else
    chv ((μ.1 0 37) - (nI 1)) 40 <|
    if (μ.1 19 (ix ((μ.1 0 37) - (nI 1)))) = v1 then
      lt (sti μ 0 37 ((μ.1 0 37) - (nI 1))) fun μ1 =>
      bnd (M_emits v1 (nI 0) μ1) fun μ2 =>
      if v1 = (nI 9) then
        lt (sti μ2 0 35 ((μ2.1 0 35) - (nI 1))) fun μ3 =>
        some (.inl μ3)
      else
        some (.inl μ2)
    else
      some (.inr μ)
def M_settles (v1 : Int32) (μ : Mm) : Option Mm :=
  bni (iter 1000000 (fun s => M_settles_l0 v1 s) μ) fun x0 =>
  some x0
def M_readAny_j77 (v1 : Int32) (v2 : Int32) (s1 : Int32) (μ : Mm) : Option ((Int32 × Int32 × Mm) ⊕ (Mm ⊕ (Mm ⊕ (Mm ⊕ Mm)))) :=
  bnd (M_waits s1 μ) fun μ20 =>
  bnd (M_reads μ20) fun μ21 =>
  some (.inl (v1, v2, μ21))
def M_readAny_j65 (v1 : Int32) (v2 : Int32) (v3 : Int32) (μ : Mm) : Option ((Int32 × Int32 × Mm) ⊕ (Mm ⊕ (Mm ⊕ (Mm ⊕ Mm)))) :=
  if v3 = 0 then
    M_readAny_j77 v1 v2 (nI 12) μ
  else
    M_readAny_j77 v1 v2 (nI 9) μ
def M_readAny_j32 (v1 : Int32) (v2 : Int32) (v3 : Int32) (μ : Mm) : Option ((Int32 × Int32 × Mm) ⊕ (Mm ⊕ (Mm ⊕ (Mm ⊕ Mm)))) :=
  if (μ.1 0 35) = (nI 8) then
    some (.inr (Sum.inl μ))
  else
    lt (sti μ 0 35 ((μ.1 0 35) + (nI 1))) fun μ19 =>
    if v3 = 0 then
      M_readAny_j65 (v1 + (nI 1)) v2 v3 μ19
    else
      M_readAny_j65 v1 v2 v3 μ19
def M_readAny_l9 (v1 : Int32) (v2 : Int32) (μ : Mm) : Option ((Int32 × Int32 × Mm) ⊕ (Mm ⊕ (Mm ⊕ (Mm ⊕ Mm)))) :=
  if v2 = 0 then
    bnd (M_isWord (nI 4) μ) fun r2 =>
    if r2 = 0 then
      bnd (M_isWord (nI 3) μ) fun r3 =>
      if r3 = 0 then
        bnd (M_settles (nI 10) μ) fun μ4 =>
        bnd (M_settles (nI 11) μ4) fun μ5 =>
        if v1 = 0 then
          some (.inr (Sum.inr (Sum.inr (Sum.inl μ5))))
        else
          bnd (M_isSign (nI 41) μ5) fun r6 =>
          if r6 = 0 then
            some (.inr (Sum.inr (Sum.inr (Sum.inr μ5))))
          else
            lt (sti μ5 0 37 ((μ5.1 0 37) - (nI 1))) fun μ7 =>
            lt (sti μ7 0 35 ((μ7.1 0 35) - (nI 1))) fun μ8 =>
            bnd (M_settles (nI 9) μ8) fun μ9 =>
            bnd (M_reads μ9) fun μ10 =>
            some (.inl ((v1 - (nI 1)), v2, μ10))
      else
        bnd (M_settles (nI 10) μ) fun μ11 =>
        bnd (M_settles (nI 11) μ11) fun μ12 =>
        bnd (M_waits (nI 11) μ12) fun μ13 =>
        bnd (M_reads μ13) fun μ14 =>
        some (.inl (v1, (nI 1), μ14))
    else
      bnd (M_settles (nI 10) μ) fun μ15 =>
      bnd (M_waits (nI 10) μ15) fun μ16 =>
      bnd (M_reads μ16) fun μ17 =>
      some (.inl (v1, (nI 1), μ17))
  else
    bnd (M_isWord (nI 5) μ) fun r18 =>
    if r18 = 0 then
      bnd (M_isSign (nI 40) μ) fun r22 =>
      if r22 = 0 then
        bnd2 (M_readCompared μ) fun r24 μ23 =>
        if r24 = (-1) then
          some (.inr (Sum.inr (Sum.inl μ23)))
        else
          bnd (M_settles (nI 9) μ23) fun μ25 =>
          some (.inl (v1, (nI 0), μ25))
      else
        M_readAny_j32 v1 v2 r18 μ
    else
      M_readAny_j32 v1 v2 r18 μ
def M_readAny (μ : Mm) : Option (Int32 × Mm) :=
  lt (sti μ 0 37 (nI 0)) fun μ1 =>
  bni (iter 1000000 (fun s => M_readAny_l9 s.1 s.2.1 s.2.2) ((nI 0), (nI 1), μ1)) fun x9 => 
  (Sum.elim (fun x9a =>
    bnd2 (M_errs (nI 3) x9a) fun r27 μ26 =>
    some (r27, μ26))
    (Sum.elim (fun x9b =>
      some ((-1), x9b))
      (Sum.elim (fun x9c =>
        some ((nI 0), x9c))
        (fun x9d =>
          bnd2 (M_errs (nI 1) x9d) fun r29 μ28 =>
          some (r29, μ28))))) x9
def M_isLineWord_j13 (s1 : Int32) (μ : Mm) : Option Int32 :=
  bnd (M_isWord s1 μ) fun r1 =>
  chk (r1 = 0 ∨ r1 = 1) <|
  some r1
def M_isLineWord (μ : Mm) : Option Int32 :=
  if (μ.1 0 33) = 0 then
    M_isLineWord_j13 (nI 0) μ
  else
    M_isLineWord_j13 (nI 1) μ
def M_readLaw_j82 (v1 : Int32) (v2 : Int32) (μ : Mm) : Option ((Int32 × Mm) ⊕ (Mm ⊕ (Mm ⊕ (Mm ⊕ (Mm ⊕ (Int32 × Mm)))))) :=
  chv v2 48 <|
  lt (sti μ 16 (ix v2) (μ.1 0 34)) fun μ8 =>
  bnd (M_isSign (nI 59) μ8) fun r9 =>
  if r9 = 0 then
    some (.inr (Sum.inr (Sum.inr (Sum.inr (Sum.inl μ8)))))
  else
    bnd (M_reads μ8) fun μ10 =>
    some (.inl ((v1 + (nI 1)), μ10))
def M_readLaw_l2 (v1 : Int32) (μ : Mm) : Option ((Int32 × Mm) ⊕ (Mm ⊕ (Mm ⊕ (Mm ⊕ (Mm ⊕ (Int32 × Mm)))))) :=
  bnd (M_isLineWord μ) fun r1 =>
  if r1 = 0 then
    some (.inr (Sum.inr (Sum.inr (Sum.inr (Sum.inr (v1, μ))))))
  else
    if v1 = (nI 16) then
      some (.inr (Sum.inl μ))
    else
      bnd (M_reads μ) fun μ2 =>
      chv ((nI 32) + v1) 48 <|
      lt (sti μ2 14 (ix ((nI 32) + v1)) (μ2.1 0 34)) fun μ3 =>
      bnd2 (M_readSum μ3) fun r5 μ4 =>
      if r5 = (-1) then
        some (.inr (Sum.inr (Sum.inl μ4)))
      else
        chv ((nI 32) + v1) 48 <|
        lt (sti μ4 15 (ix ((nI 32) + v1)) (μ4.1 0 34)) fun μ6 =>
        bnd (M_isWord (nI 2) μ6) fun r7 =>
        if r7 = 0 then
          M_readLaw_j82 v1 ((nI 32) + v1) μ6
        else
          bnd (M_reads μ6) fun μ11 =>
          bnd2 (M_readAny μ11) fun r13 μ12 =>
          if r13 = (-1) then
            some (.inr (Sum.inr (Sum.inr (Sum.inl μ12))))
          else
            M_readLaw_j82 v1 ((nI 32) + v1) μ12
def M_readLaw (μ : Mm) : Option (Int32 × Mm) :=
  bni (iter 1000000 (fun s => M_readLaw_l2 s.1 s.2) ((nI 0), μ)) fun x2 => 
  (Sum.elim (fun x2a =>
    bnd2 (M_errs (nI 3) x2a) fun r15 μ14 =>
    some (r15, μ14))
    (Sum.elim (fun x2b =>
      some ((-1), x2b))
      (Sum.elim (fun x2c =>
        some ((-1), x2c))
        (Sum.elim (fun x2d =>
          bnd2 (M_errs (nI 1) x2d) fun r17 μ16 =>
          some (r17, μ16))
          (fun x2e =>
            if (x2e.2.1 0 24) = 0 then
              some (x2e.1, x2e.2)
            else
              bnd2 (M_errs (nI 1) x2e.2) fun r19 μ18 =>
              some (r19, μ18)))))) x2
def M_takesLaw_l2 (v1 : Int32) (v2 : Int32) (μ : Mm) : Option ((Int32 × Mm) ⊕ Mm) :=
  if v1 ≤ v2 then
    some (.inr μ)
  else
    chv ((nI 32) + v2) 48 <|
    chv (((nI 16) * (μ.1 0 33)) + v2) 48 <|
    lt (sti μ 14 (ix (((nI 16) * (μ.1 0 33)) + v2)) (μ.1 14 (ix ((nI 32) + v2)))) fun μ1 =>
    chv ((nI 32) + v2) 48 <|
    chv (((nI 16) * (μ1.1 0 33)) + v2) 48 <|
    lt (sti μ1 15 (ix (((nI 16) * (μ1.1 0 33)) + v2)) (μ1.1 15 (ix ((nI 32) + v2)))) fun μ2 =>
    chv ((nI 32) + v2) 48 <|
    chv (((nI 16) * (μ2.1 0 33)) + v2) 48 <|
    lt (sti μ2 16 (ix (((nI 16) * (μ2.1 0 33)) + v2)) (μ2.1 16 (ix ((nI 32) + v2)))) fun μ3 =>
    some (.inl ((v2 + (nI 1)), μ3))
def M_takesLaw_l84 (v1 : Int32) (v2 : Int32) (μ : Mm) : Option ((Int32 × Mm) ⊕ Mm) :=
  if (μ.1 0 34) ≤ v2 then
    some (.inr μ)
  else
    chv ((nI 800) + v2) 1200 <|
    chv (((nI 400) * (μ.1 0 33)) + v2) 1200 <|
    lt (sti μ 17 (ix (((nI 400) * (μ.1 0 33)) + v2)) (μ.1 17 (ix ((nI 800) + v2)))) fun μ4 =>
    chv ((nI 800) + v2) 1200 <|
    chv (((nI 400) * (μ4.1 0 33)) + v2) 1200 <|
    lt (sti μ4 18 (ix (((nI 400) * (μ4.1 0 33)) + v2)) (μ4.1 18 (ix ((nI 800) + v2)))) fun μ5 =>
    some (.inl ((v2 + (nI 1)), μ5))
def M_takesLaw (v1 : Int32) (μ : Mm) : Option Mm :=
  bni (iter 1000000 (fun s => M_takesLaw_l2 v1 s.1 s.2) ((nI 0), μ)) fun x2 =>
  bni (iter 1000000 (fun s => M_takesLaw_l84 v1 s.1 s.2) ((nI 0), x2)) fun x84 =>
  chv (x84.1 0 33) 2 <|
  lt (sti x84 13 (ix (x84.1 0 33)) v1) fun μ6 =>
  some μ6
def M_readNumber (v1 : Int32) (v2 : Int32) (μ : Mm) : Option (Int32 × Mm) :=
  if (μ.1 0 24) = (nI 3) then
    bnd (M_isIn (μ.1 0 25) v1 v2) fun r1 =>
    if r1 = 0 then
      bnd2 (M_errs (nI 2) μ) fun r4 μ3 =>
      some (r4, μ3)
    else
      bnd (M_reads μ) fun μ2 =>
      some ((μ.1 0 25), μ2)
  else
    bnd2 (M_errs (nI 1) μ) fun r6 μ5 =>
    some (r6, μ5)
def M_readWord (v1 : Int32) (μ : Mm) : Option (Int32 × Mm) :=
  bnd (M_isWord v1 μ) fun r1 =>
  if r1 = 0 then
    bnd2 (M_errs (nI 1) μ) fun r4 μ3 =>
    some (r4, μ3)
  else
    bnd (M_reads μ) fun μ2 =>
    some ((nI 0), μ2)
def M_readWay (μ : Mm) : Option (Int32 × Mm) :=
  bnd2 (M_readNumber (nI 0) (nI 5) μ) fun r2 μ1 =>
  if r2 = (-1) then
    some ((-1), μ1)
  else
    bnd2 (M_readWord (nI 18) μ1) fun r4 μ3 =>
    if r4 = (-1) then
      some ((-1), μ3)
    else
      bnd2 (M_readNumber (nI 0) (nI 5) μ3) fun r6 μ5 =>
      if r6 = (-1) then
        some ((-1), μ5)
      else
        bnd2 (M_readWord (nI 19) μ5) fun r8 μ7 =>
        if r8 = (-1) then
          some ((-1), μ7)
        else
          bnd2 (M_readNumber (nI 1) (nI 20) μ7) fun r10 μ9 =>
          if r10 = (-1) then
            some ((-1), μ9)
          else
            bnd (M_isSign (nI 59) μ9) fun r11 =>
            if r11 = 0 then
              bnd2 (M_errs (nI 1) μ9) fun r16 μ15 =>
              some (r16, μ15)
            else
              bnd (M_reads μ9) fun μ12 =>
              chv (((nI 36) + ((nI 6) * r2)) + r6) 72 <|
              lt (sti μ12 20 (ix (((nI 36) + ((nI 6) * r2)) + r6)) (r10 - (nI 1))) fun μ13 =>
              chv (((nI 36) + ((nI 6) * r6)) + r2) 72 <|
              lt (sti μ13 20 (ix (((nI 36) + ((nI 6) * r6)) + r2)) (r10 - (nI 1))) fun μ14 =>
              some ((nI 0), μ14)
def M_readPost_l2 (v1 : Int32) (μ : Mm) : Option ((Int32 × Mm) ⊕ Mm) :=
  if (nI 36) ≤ v1 then
    some (.inr μ)
  else
    chv ((nI 36) + v1) 72 <|
    lt (sti μ 20 (ix ((nI 36) + v1)) (nI 0)) fun μ1 =>
    some (.inl ((v1 + (nI 1)), μ1))
def M_readPost_l26 (v1 : Int32) (μ : Mm) : Option ((Int32 × Mm) ⊕ (Mm ⊕ (Int32 × Mm))) :=
  bnd (M_isWord (nI 17) μ) fun r2 =>
  if r2 = 0 then
    some (.inr (Sum.inr (v1, μ)))
  else
    bnd (M_reads μ) fun μ3 =>
    bnd2 (M_readWay μ3) fun r5 μ4 =>
    if r5 = (-1) then
      some (.inr (Sum.inl μ4))
    else
      some (.inl ((v1 + (nI 1)), μ4))
def M_readPost (μ : Mm) : Option (Int32 × Mm) :=
  bni (iter 1000000 (fun s => M_readPost_l2 s.1 s.2) ((nI 0), μ)) fun x2 =>
  bni (iter 1000000 (fun s => M_readPost_l26 s.1 s.2) ((nI 0), x2)) fun x26 => 
  (Sum.elim (fun x26a =>
    some ((-1), x26a))
    (fun x26b =>
      if (x26b.2.1 0 24) = 0 then
        some (x26b.1, x26b.2)
      else
        bnd2 (M_errs (nI 1) x26b.2) fun r7 μ6 =>
        some (r7, μ6))) x26
def M_takesPost_l2 (v1 : Int32) (v2 : Int32) (μ : Mm) : Option ((Int32 × Mm) ⊕ Mm) :=
  if (nI 36) ≤ v2 then
    some (.inr μ)
  else
    chv ((nI 36) + v2) 72 <|
    chv v2 72 <|
    lt (sti μ 20 (ix v2) (μ.1 20 (ix ((nI 36) + v2)))) fun μ1 =>
    some (.inl ((v2 + (nI 1)), μ1))
def M_takesPost (v1 : Int32) (μ : Mm) : Option Mm :=
  bni (iter 1000000 (fun s => M_takesPost_l2 v1 s.1 s.2) ((nI 0), μ)) fun x2 =>
  lt (sti x2 0 43 v1) fun μ2 =>
  some μ2
def M_text_j89 (v1 : Int32) (v2 : Int32) (μ : Mm) : Option (Int32 × Mm) :=
  lt (sti μ 0 21 (nI 0)) fun μ9 =>
  if v2 = (-1) then
    some ((-1), μ9)
  else
    if v1 = (nI 2) then
      bnd (M_takesPost v2 μ9) fun μ11 =>
      some (v2, μ11)
    else
      bnd (M_takesLaw v2 μ9) fun μ10 =>
      some (v2, μ10)
def M_text_j67 (v1 : Int32) (s0 : Int32) (μ : Mm) : Option (Int32 × Mm) :=
  if s0 = (-1) then
    lt (sti μ 0 40 (μ.1 0 38)) fun μ15 =>
    lt (sti μ15 0 41 (μ15.1 0 39)) fun μ16 =>
    M_text_j89 v1 s0 μ16
  else
    M_text_j89 v1 s0 μ
def M_text (v1 : Int32) (μ : Mm) : Option (Int32 × Mm) :=
  lt (sti μ 0 0 (nI 0)) fun μ1 =>
  lt (sti μ1 0 40 (nI 0)) fun μ2 =>
  lt (sti μ2 0 41 (-1)) fun μ3 =>
  lt (sti μ3 0 22 (nI 0)) fun μ4 =>
  lt (sti μ4 0 34 (nI 0)) fun μ5 =>
  lt (sti μ5 0 35 (nI 0)) fun μ6 =>
  lt (sti μ6 0 33 v1) fun μ7 =>
  bnd (M_isIn v1 (nI 0) (nI 2)) fun r8 =>
  if r8 = 0 then
    M_text_j89 v1 (-1) μ7
  else
    bnd (M_reads μ7) fun μ12 =>
    if v1 = (nI 2) then
      bnd2 (M_readPost μ12) fun r18 μ17 =>
      M_text_j67 v1 r18 μ17
    else
      bnd2 (M_readLaw μ12) fun r14 μ13 =>
      M_text_j67 v1 r14 μ13
def M_fault (v1 : Int32) (μ : Mm) : Option (Int32 × Mm) :=
  lt (sti μ 0 0 (nI 0)) fun μ1 =>
  if v1 = 0 then
    some ((μ1.1 0 40), μ1)
  else
    if v1 = (nI 1) then
      some ((μ1.1 0 41), μ1)
    else
      some ((-1), μ1)
def M_twoOf (v1 : Int32) (v2 : Int32) (v3 : Int32) : Option Int32 :=
  if v1 = (nI 2) then
    some (v2 + v3)
  else
    if v1 = (nI 3) then
      some (v2 - v3)
    else
      if v1 = (nI 4) then
        some (v2 * v3)
      else
        if v1 = (nI 5) then
          chk (¬ (v3 : Int32) = 0) <|
          some (v2 / v3)
        else
          if v1 = (nI 6) then
            if v3 ≤ v2 then
              some (nI 0)
            else
              some (nI 1)
          else
            if v1 = (nI 7) then
              if v2 = v3 then
                some (nI 1)
              else
                some (nI 0)
            else
              if v1 = (nI 8) then
                if v2 ≤ v3 then
                  some (nI 0)
                else
                  some (nI 1)
              else
                if v1 = (nI 10) then
                  some (v2 * v3)
                else
                  if (v2 + v3) ≤ 0 then
                    some (nI 0)
                  else
                    some (nI 1)
def M_runs_j170 (v1 : Int32) (v3 : Int32) (v4 : Int32) (v5 : Int32) (μ : Mm) : Option ((Int32 × Int32 × Mm) ⊕ Mm) :=
  some (.inl (v4, (v5 + (nI 1)), μ))
def M_runs_j83 (v1 : Int32) (v3 : Int32) (v4 : Int32) (v5 : Int32) (s1 : Int32) (s2 : Int32) (μ : Mm) : Option ((Int32 × Int32 × Mm) ⊕ Mm) :=
  chv s1 420 <|
  lt (sti μ 22 (ix s1) s2) fun μ1 =>
  M_runs_j170 v1 v3 (v4 + (nI 1)) v5 μ1
def M_runs_j45 (v1 : Int32) (v3 : Int32) (v4 : Int32) (v5 : Int32) (μ : Mm) : Option ((Int32 × Int32 × Mm) ⊕ Mm) :=
  chv v5 1200 <|
  if (μ.1 17 (ix v5)) = 0 then
    chv v5 1200 <|
    M_runs_j83 v1 v3 v4 v5 v4 (μ.1 18 (ix v5)) μ
  else
    chv v5 1200 <|
    chv (μ.1 18 (ix v5)) 11 <|
    M_runs_j83 v1 v3 v4 v5 v4 (μ.1 21 (ix (μ.1 18 (ix v5)))) μ
def M_runs_l12 (v1 : Int32) (v3 : Int32) (v4 : Int32) (v5 : Int32) (μ : Mm) : Option ((Int32 × Int32 × Mm) ⊕ Mm) :=
  if (((nI 400) * v1) + v3) ≤ v5 then
    some (.inr μ)
  else
    chv v5 1200 <|
    if (μ.1 17 (ix v5)) = 0 then
      M_runs_j45 v1 v3 v4 v5 μ
    else
      chv v5 1200 <|
      if (μ.1 17 (ix v5)) = (nI 1) then
        M_runs_j45 v1 v3 v4 v5 μ
      else
        chv v5 1200 <|
        if (μ.1 17 (ix v5)) = (nI 9) then
          chv (v4 - (nI 1)) 420 <|
          chv (v4 - (nI 1)) 420 <|
          lt (sti μ 22 (ix (v4 - (nI 1))) ((nI 1) - (μ.1 22 (ix (v4 - (nI 1)))))) fun μ4 =>
          M_runs_j170 v1 v3 v4 v5 μ4
        else
          chv v5 1200 <|
          chv ((v4 - (nI 1)) - (nI 1)) 420 <|
          chv (v4 - (nI 1)) 420 <|
          bnd (M_twoOf (μ.1 17 (ix v5)) (μ.1 22 (ix ((v4 - (nI 1)) - (nI 1)))) (μ.1 22 (ix (v4 - (nI 1))))) fun r2 =>
          chv ((v4 - (nI 1)) - (nI 1)) 420 <|
          lt (sti μ 22 (ix ((v4 - (nI 1)) - (nI 1))) r2) fun μ3 =>
          M_runs_j170 v1 v3 (v4 - (nI 1)) v5 μ3
def M_runs (v1 : Int32) (v2 : Int32) (v3 : Int32) (μ : Mm) : Option (Int32 × Mm) :=
  bni (iter 1000000 (fun s => M_runs_l12 v1 v3 s.1 s.2.1 s.2.2) ((nI 0), (((nI 400) * v1) + v2), μ)) fun x12 =>
  chv (nI 0) 420 <|
  some ((x12.1 22 (ix (nI 0))), x12)
def M_lineOf_l2 (v1 : Int32) (v2 : Int32) (μ : Mm) : Option ((Int32 × Mm) ⊕ ((Int32 × Mm) ⊕ Mm)) :=
  chv v1 2 <|
  if (μ.1 13 (ix v1)) ≤ v2 then
    some (.inr (Sum.inr μ))
  else
    chv (((nI 16) * v1) + v2) 48 <|
    chv (((nI 16) * v1) + v2) 48 <|
    if (μ.1 15 (ix (((nI 16) * v1) + v2))) = (μ.1 16 (ix (((nI 16) * v1) + v2))) then
      some (.inr (Sum.inl ((((nI 16) * v1) + v2), μ)))
    else
      chv (((nI 16) * v1) + v2) 48 <|
      chv (((nI 16) * v1) + v2) 48 <|
      bnd2 (M_runs v1 (μ.1 15 (ix (((nI 16) * v1) + v2))) (μ.1 16 (ix (((nI 16) * v1) + v2))) μ) fun r2 μ1 =>
      if r2 = 0 then
        some (.inl ((v2 + (nI 1)), μ1))
      else
        some (.inr (Sum.inl ((((nI 16) * v1) + v2), μ1)))
def M_lineOf (v1 : Int32) (μ : Mm) : Option (Int32 × Mm) :=
  bni (iter 1000000 (fun s => M_lineOf_l2 v1 s.1 s.2) ((nI 0), μ)) fun x2 => 
  (Sum.elim (fun x2a =>
    some (x2a.1, x2a.2))
    (fun x2b =>
      some ((-1), x2b))) x2
def M_asksBoth (v1 : Int32) (v2 : Int32) (μ : Mm) : Option Mm :=
  bnd (M_letterAt v1 v2) fun r1 =>
  chv (r1 + (nI 0)) 712 <|
  chv ((nI 7) + (μ.1 1 (ix (r1 + (nI 0))))) 712 <|
  chv (nI 0) 11 <|
  lt (sti μ 21 (ix (nI 0)) (μ.1 1 (ix ((nI 7) + (μ.1 1 (ix (r1 + (nI 0)))))))) fun μ2 =>
  chv (r1 + (nI 3)) 712 <|
  chv (nI 1) 11 <|
  lt (sti μ2 21 (ix (nI 1)) (μ2.1 1 (ix (r1 + (nI 3))))) fun μ3 =>
  chv v1 16 <|
  chv (nI 2) 11 <|
  lt (sti μ3 21 (ix (nI 2)) (μ3.1 5 (ix v1))) fun μ4 =>
  chv v1 16 <|
  chv (nI 3) 11 <|
  lt (sti μ4 21 (ix (nI 3)) (μ4.1 6 (ix v1))) fun μ5 =>
  chv ((nI 199) + v1) 712 <|
  chv (nI 4) 11 <|
  lt (sti μ5 21 (ix (nI 4)) (μ5.1 1 (ix ((nI 199) + v1)))) fun μ6 =>
  chv (nI 5) 11 <|
  lt (sti μ6 21 (ix (nI 5)) v1) fun μ7 =>
  chv (nI 0) 712 <|
  chv (nI 6) 11 <|
  lt (sti μ7 21 (ix (nI 6)) (μ7.1 1 (ix (nI 0)))) fun μ8 =>
  some μ8
def M_held (v1 : Int32) (v2 : Int32) (v3 : Int32) : Option Int32 :=
  if v2 ≤ v1 then
    if v1 ≤ v3 then
      some v1
    else
      some v3
  else
    some v2
def M_writeOf (v1 : Int32) (v2 : Int32) (μ : Mm) : Option (Int32 × Mm) :=
  bnd (M_asksBoth v1 v2 μ) fun μ1 =>
  bnd (M_letterAt v1 v2) fun r2 =>
  chv (r2 + (nI 2)) 712 <|
  chv (nI 0) 712 <|
  chv (nI 7) 11 <|
  lt (sti μ1 21 (ix (nI 7)) ((μ1.1 1 (ix (r2 + (nI 2)))) - (μ1.1 1 (ix (nI 0))))) fun μ3 =>
  chv ((nI 183) + v1) 712 <|
  chv (nI 8) 11 <|
  lt (sti μ3 21 (ix (nI 8)) (μ3.1 1 (ix ((nI 183) + v1)))) fun μ4 =>
  chv ((nI 263) + v1) 712 <|
  chv (nI 9) 11 <|
  lt (sti μ4 21 (ix (nI 9)) (μ4.1 1 (ix ((nI 263) + v1)))) fun μ5 =>
  chv (r2 + (nI 0)) 712 <|
  chv ((nI 47) + (μ5.1 1 (ix (r2 + (nI 0))))) 712 <|
  bnd (M_ones (μ5.1 1 (ix ((nI 47) + (μ5.1 1 (ix (r2 + (nI 0)))))))) fun r6 =>
  chv (nI 10) 11 <|
  lt (sti μ5 21 (ix (nI 10)) r6) fun μ7 =>
  bnd2 (M_lineOf (nI 0) μ7) fun r9 μ8 =>
  if r9 = (-1) then
    some ((nI 1), μ8)
  else
    chv r9 48 <|
    chv r9 48 <|
    bnd2 (M_runs (nI 0) (μ8.1 14 (ix r9)) (μ8.1 15 (ix r9)) μ8) fun r11 μ10 =>
    bnd (M_held r11 (nI 0) (nI 9)) fun r12 =>
    some (r12, μ10)
def M_illOf_j51 (s1 : Int32) (μ : Mm) : Option (Int32 × Mm) :=
  bnd (M_held s1 (nI 0) (nI 999)) fun r6 =>
  some (r6, μ)
def M_illOf (v1 : Int32) (v2 : Int32) (μ : Mm) : Option (Int32 × Mm) :=
  bnd (M_asksBoth v1 v2 μ) fun μ1 =>
  bnd2 (M_lineOf (nI 1) μ1) fun r3 μ2 =>
  if r3 = (-1) then
    chv (nI 0) 11 <|
    chv (nI 1) 11 <|
    M_illOf_j51 ((μ2.1 21 (ix (nI 0))) * (μ2.1 21 (ix (nI 1)))) μ2
  else
    chv r3 48 <|
    chv r3 48 <|
    bnd2 (M_runs (nI 1) (μ2.1 14 (ix r3)) (μ2.1 15 (ix r3)) μ2) fun r5 μ4 =>
    M_illOf_j51 r5 μ4
def M_notes (v1 : Int32) (v2 : Int32) (v3 : Int32) (v4 : Int32) (μ : Mm) : Option Mm :=
  if (μ.1 0 5) = 0 then
    chv (nI 2) 712 <|
    if (μ.1 1 (ix (nI 2))) = (nI 200) then
      some μ
    else
      chv (nI 2) 712 <|
      chv (nI 0) 712 <|
      chv ((nI 5) * (μ.1 1 (ix (nI 2)))) 1000 <|
      lt (sti μ 10 (ix ((nI 5) * (μ.1 1 (ix (nI 2))))) (μ.1 1 (ix (nI 0)))) fun μ1 =>
      chv (((nI 5) * (μ.1 1 (ix (nI 2)))) + (nI 1)) 1000 <|
      lt (sti μ1 10 (ix (((nI 5) * (μ.1 1 (ix (nI 2)))) + (nI 1))) v1) fun μ2 =>
      chv (((nI 5) * (μ.1 1 (ix (nI 2)))) + (nI 2)) 1000 <|
      lt (sti μ2 10 (ix (((nI 5) * (μ.1 1 (ix (nI 2)))) + (nI 2))) v2) fun μ3 =>
      chv (((nI 5) * (μ.1 1 (ix (nI 2)))) + (nI 3)) 1000 <|
      lt (sti μ3 10 (ix (((nI 5) * (μ.1 1 (ix (nI 2)))) + (nI 3))) v3) fun μ4 =>
      chv (((nI 5) * (μ.1 1 (ix (nI 2)))) + (nI 4)) 1000 <|
      lt (sti μ4 10 (ix (((nI 5) * (μ.1 1 (ix (nI 2)))) + (nI 4))) v4) fun μ5 =>
      chv (nI 2) 712 <|
      chv (nI 2) 712 <|
      lt (sti μ5 1 (ix (nI 2)) ((μ5.1 1 (ix (nI 2))) + (nI 1))) fun μ6 =>
      some μ6
  else
    some μ
def M_comesTo (v1 : Int32) (v2 : Int32) (v3 : Int32) (μ : Mm) : Option (Int32 × Mm) :=
  chv v3 16 <|
  if (μ.1 5 (ix v3)) = (nI 1) then
    some ((nI 1), μ)
  else
    chv ((nI 247) + v3) 712 <|
    if (((μ.1 1 (ix ((nI 247) + v3))) >>> (v2 &&& 31)) &&& (nI 1)) = (nI 1) then
      some ((nI 2), μ)
    else
      chv ((nI 263) + v3) 712 <|
      if (μ.1 1 (ix ((nI 263) + v3))) = (nI 3) then
        chv (nI 5) 712 <|
        chv (nI 5) 712 <|
        lt (sti μ 1 (ix (nI 5)) ((μ.1 1 (ix (nI 5))) + (nI 1))) fun μ2 =>
        some ((nI 3), μ2)
      else
        bnd (M_holds v3 v1 v2 μ) fun μ1 =>
        some ((nI 0), μ1)
def M_arrives_j167 (v1 : Int32) (v2 : Int32) (v3 : Int32) (μ : Mm) : Option ((Int32 × Int32 × Int32 × Mm) ⊕ (Int32 × Int32 × Mm)) :=
  some (.inl (v1, v2, (v3 + (nI 1)), μ))
def M_arrives_l48 (v1 : Int32) (v2 : Int32) (v3 : Int32) (v4 : Int32) (v5 : Int32) (μ : Mm) : Option ((Int32 × Mm) ⊕ Mm) :=
  if (nI 4) ≤ v5 then
    some (.inr μ)
  else
    chv (v4 + v5) 712 <|
    chv (((nI 472) + ((nI 4) * v2)) + v5) 712 <|
    lt (sti μ 1 (ix (((nI 472) + ((nI 4) * v2)) + v5)) (μ.1 1 (ix (v4 + v5)))) fun μ4 =>
    some (.inl ((v5 + (nI 1)), μ4))
def M_arrives_l6 (v1 : Int32) (v2 : Int32) (v3 : Int32) (μ : Mm) : Option ((Int32 × Int32 × Int32 × Mm) ⊕ (Int32 × Int32 × Mm)) :=
  chv (nI 471) 712 <|
  if (μ.1 1 (ix (nI 471))) ≤ v3 then
    some (.inr (v1, v2, μ))
  else
    chv (((nI 472) + ((nI 4) * v3)) + (nI 3)) 712 <|
    chv (nI 0) 712 <|
    if (μ.1 1 (ix (((nI 472) + ((nI 4) * v3)) + (nI 3)))) ≤ (μ.1 1 (ix (nI 0))) then
      chv (((nI 472) + ((nI 4) * v3)) + (nI 0)) 712 <|
      chv (((nI 472) + ((nI 4) * v3)) + (nI 1)) 712 <|
      chv (((nI 472) + ((nI 4) * v3)) + (nI 2)) 712 <|
      bnd2 (M_comesTo (μ.1 1 (ix (((nI 472) + ((nI 4) * v3)) + (nI 0)))) (μ.1 1 (ix (((nI 472) + ((nI 4) * v3)) + (nI 1)))) (μ.1 1 (ix (((nI 472) + ((nI 4) * v3)) + (nI 2)))) μ) fun r2 μ1 =>
      chv (((nI 472) + ((nI 4) * v3)) + (nI 0)) 712 <|
      chv (((nI 472) + ((nI 4) * v3)) + (nI 1)) 712 <|
      chv (((nI 472) + ((nI 4) * v3)) + (nI 2)) 712 <|
      bnd (M_notes (μ1.1 1 (ix (((nI 472) + ((nI 4) * v3)) + (nI 0)))) (μ1.1 1 (ix (((nI 472) + ((nI 4) * v3)) + (nI 1)))) (μ1.1 1 (ix (((nI 472) + ((nI 4) * v3)) + (nI 2)))) r2 μ1) fun μ3 =>
      if r2 = 0 then
        M_arrives_j167 (v1 + (nI 1)) v2 v3 μ3
      else
        M_arrives_j167 v1 v2 v3 μ3
    else
      bni (iter 1000000 (fun s => M_arrives_l48 v1 v2 v3 ((nI 472) + ((nI 4) * v3)) s.1 s.2) ((nI 0), μ)) fun x48 =>
      M_arrives_j167 v1 (v2 + (nI 1)) v3 x48
def M_arrives (μ : Mm) : Option (Int32 × Mm) :=
  bni (iter 1000000 (fun s => M_arrives_l6 s.1 s.2.1 s.2.2.1 s.2.2.2) ((nI 0), (nI 0), (nI 0), μ)) fun x6 =>
  chv (nI 471) 712 <|
  lt (sti x6.2.2 1 (ix (nI 471)) x6.2.1) fun μ5 =>
  some (x6.1, μ5)
def M_postOf (v1 : Int32) (v2 : Int32) (μ : Mm) : Option Int32 :=
  chv (((nI 6) * v1) + v2) 72 <|
  some ((μ.1 20 (ix (((nI 6) * v1) + v2))) + (nI 1))
def M_copyOf_j80 (v1 : Int32) (v2 : Int32) (v3 : Int32) (s0 : Int32) (μ : Mm) : Option (Int32 × Mm) :=
  chv ((nI 47) + v1) 712 <|
  bnd2 (M_comesVersion s0 ((μ.1 1 (ix ((nI 47) + v1))) ^^^ ((nI 1) <<< (v3 &&& 31))) v1 v2 μ) fun r6 μ5 =>
  some (r6, μ5)
def M_copyOf_j78 (v1 : Int32) (v2 : Int32) (v3 : Int32) (v4 : Int32) (μ : Mm) : Option (Int32 × Mm) :=
  M_copyOf_j80 v1 v2 v3 v4 μ
def M_copyOf (v1 : Int32) (v2 : Int32) (μ : Mm) : Option (Int32 × Mm) :=
  if (μ.1 0 5) = 0 then
    if (μ.1 0 15) = 0 then
      some (v1, μ)
    else
      bnd2 (M_draw (nI 1000) μ) fun r2 μ1 =>
      if r2 < (μ1.1 0 15) then
        bnd2 (M_draw (nI 10) μ1) fun r4 μ3 =>
        chv (nI 6) 712 <|
        if (μ3.1 1 (ix (nI 6))) = (nI 40) then
          some (v1, μ3)
        else
          chv ((nI 7) + v1) 712 <|
          if r4 = 0 then
            if (μ3.1 1 (ix ((nI 7) + v1))) ≤ 0 then
              M_copyOf_j78 v1 v2 r4 (μ3.1 1 (ix ((nI 7) + v1))) μ3
            else
              M_copyOf_j80 v1 v2 r4 ((μ3.1 1 (ix ((nI 7) + v1))) - (nI 1)) μ3
          else
            M_copyOf_j78 v1 v2 r4 (μ3.1 1 (ix ((nI 7) + v1))) μ3
      else
        some (v1, μ1)
  else
    some (v1, μ)
def M_posts (v1 : Int32) (v2 : Int32) (v3 : Int32) (μ : Mm) : Option Mm :=
  chv (nI 471) 712 <|
  if (μ.1 1 (ix (nI 471))) = (nI 60) then
    chv (nI 5) 712 <|
    chv (nI 5) 712 <|
    lt (sti μ 1 (ix (nI 5)) ((μ.1 1 (ix (nI 5))) + (nI 1))) fun μ8 =>
    some μ8
  else
    chv (nI 471) 712 <|
    lt ((nI 472) + ((nI 4) * (μ.1 1 (ix (nI 471))))) fun u1 =>
    chv (u1 + (nI 0)) 712 <|
    lt (sti μ 1 (ix (u1 + (nI 0))) v1) fun μ2 =>
    chv (u1 + (nI 1)) 712 <|
    lt (sti μ2 1 (ix (u1 + (nI 1))) v2) fun μ3 =>
    chv (u1 + (nI 2)) 712 <|
    lt (sti μ3 1 (ix (u1 + (nI 2))) v3) fun μ4 =>
    chv (nI 0) 712 <|
    chv v2 16 <|
    chv v3 16 <|
    bnd (M_postOf (μ4.1 4 (ix v2)) (μ4.1 4 (ix v3)) μ4) fun r5 =>
    chv (u1 + (nI 3)) 712 <|
    lt (sti μ4 1 (ix (u1 + (nI 3))) ((μ4.1 1 (ix (nI 0))) + r5)) fun μ6 =>
    chv (nI 471) 712 <|
    chv (nI 471) 712 <|
    lt (sti μ6 1 (ix (nI 471)) ((μ6.1 1 (ix (nI 471))) + (nI 1))) fun μ7 =>
    some μ7
def M_writesOne (v1 : Int32) (v2 : Int32) (μ : Mm) : Option Mm :=
  bnd2 (M_copyOf v2 v1 μ) fun r2 μ1 =>
  chv ((nI 167) + v1) 712 <|
  chv (((nI 9) * v1) + (μ1.1 1 (ix ((nI 167) + v1)))) 144 <|
  lt (μ1.1 8 (ix (((nI 9) * v1) + (μ1.1 1 (ix ((nI 167) + v1)))))) fun u3 =>
  bnd (M_posts r2 v1 u3 μ1) fun μ4 =>
  chv ((nI 247) + v1) 712 <|
  chv ((nI 247) + v1) 712 <|
  lt (sti μ4 1 (ix ((nI 247) + v1)) ((μ4.1 1 (ix ((nI 247) + v1))) ||| ((nI 1) <<< (u3 &&& 31)))) fun μ5 =>
  chv ((nI 167) + v1) 712 <|
  chv v1 16 <|
  chk (¬ ((μ5.1 7 (ix v1)) : Int32) = 0) <|
  chv ((nI 167) + v1) 712 <|
  lt (sti μ5 1 (ix ((nI 167) + v1)) (((μ5.1 1 (ix ((nI 167) + v1))) + (nI 1)) - ((μ5.1 1 (ix ((nI 167) + v1))) + (nI 1)) / (μ5.1 7 (ix v1)) * (μ5.1 7 (ix v1)))) fun μ6 =>
  chv ((nI 183) + v1) 712 <|
  chv ((nI 183) + v1) 712 <|
  lt (sti μ6 1 (ix ((nI 183) + v1)) ((μ6.1 1 (ix ((nI 183) + v1))) - (nI 1))) fun μ7 =>
  some μ7
def M_least (v1 : Int32) (v2 : Int32) : Option Int32 :=
  if v2 ≤ v1 then
    some v2
  else
    some v1
def M_writes_l41 (v1 : Int32) (v2 : Int32) (v3 : Int32) (v4 : Int32) (μ : Mm) : Option ((Int32 × Mm) ⊕ Mm) :=
  if v3 ≤ v4 then
    some (.inr μ)
  else
    bnd (M_letterAt v1 v2) fun r6 =>
    chv (r6 + (nI 0)) 712 <|
    bnd (M_writesOne v1 (μ.1 1 (ix (r6 + (nI 0)))) μ) fun μ7 =>
    bnd (M_letterAt v1 v2) fun r8 =>
    bnd (M_letterAt v1 v2) fun r9 =>
    chv (r9 + (nI 3)) 712 <|
    chv (r8 + (nI 3)) 712 <|
    lt (sti μ7 1 (ix (r8 + (nI 3))) ((μ7.1 1 (ix (r9 + (nI 3)))) - (nI 1))) fun μ10 =>
    some (.inl ((v4 + (nI 1)), μ10))
def M_writes (v1 : Int32) (v2 : Int32) (μ : Mm) : Option (Int32 × Mm) :=
  bnd2 (M_writeOf v1 v2 μ) fun r2 μ1 =>
  bnd (M_letterAt v1 v2) fun r3 =>
  chv (r3 + (nI 3)) 712 <|
  chv ((nI 183) + v1) 712 <|
  bnd (M_least (μ1.1 1 (ix (r3 + (nI 3)))) (μ1.1 1 (ix ((nI 183) + v1)))) fun r4 =>
  bnd (M_least r2 r4) fun r5 =>
  bni (iter 1000000 (fun s => M_writes_l41 v1 v2 r5 s.1 s.2) ((nI 0), μ1)) fun x41 =>
  bnd (M_letterAt v1 v2) fun r11 =>
  chv (r11 + (nI 3)) 712 <|
  if (x41.1 1 (ix (r11 + (nI 3)))) ≤ 0 then
    bnd (M_loses v1 v2 x41) fun μ12 =>
    chv (nI 3) 712 <|
    chv (nI 3) 712 <|
    lt (sti μ12 1 (ix (nI 3)) ((μ12.1 1 (ix (nI 3))) + (nI 1))) fun μ13 =>
    some ((nI 1), μ13)
  else
    some ((nI 0), x41)
def M_allWrite_j72 (v1 : Int32) (μ : Mm) : Option ((Int32 × Mm) ⊕ Mm) :=
  some (.inl ((v1 + (nI 1)), μ))
def M_allWrite_l42 (v1 : Int32) (v2 : Int32) (μ : Mm) : Option ((Int32 × Mm) ⊕ Mm) :=
  chv ((nI 263) + v1) 712 <|
  if (μ.1 1 (ix ((nI 263) + v1))) ≤ v2 then
    some (.inr μ)
  else
    bnd2 (M_writes v1 v2 μ) fun r3 μ2 =>
    if r3 = 0 then
      some (.inl ((v2 + (nI 1)), μ2))
    else
      some (.inl (v2, μ2))
def M_allWrite_l2 (v1 : Int32) (μ : Mm) : Option ((Int32 × Mm) ⊕ Mm) :=
  if (μ.1 0 6) ≤ v1 then
    some (.inr μ)
  else
    chv v1 16 <|
    if (μ.1 5 (ix v1)) = (nI 2) then
      M_allWrite_j72 v1 μ
    else
      bnd (M_isStopped v1 μ) fun r1 =>
      if r1 = 0 then
        chv v1 16 <|
        if (μ.1 7 (ix v1)) = 0 then
          M_allWrite_j72 v1 μ
        else
          bni (iter 1000000 (fun s => M_allWrite_l42 v1 s.1 s.2) ((nI 0), μ)) fun x42 =>
          M_allWrite_j72 v1 x42
      else
        M_allWrite_j72 v1 μ
def M_allWrite (μ : Mm) : Option Mm :=
  bni (iter 1000000 (fun s => M_allWrite_l2 s.1 s.2) ((nI 0), μ)) fun x2 =>
  some x2
def M_cursesOne_j36 (v1 : Int32) (v2 : Int32) (s1 : Int32) (s2 : Int32) (μ : Mm) : Option Mm :=
  chv s1 712 <|
  lt (sti μ 1 (ix s1) s2) fun μ3 =>
  chv (nI 4) 712 <|
  chv (nI 4) 712 <|
  lt (sti μ3 1 (ix (nI 4)) ((μ3.1 1 (ix (nI 4))) + (nI 1))) fun μ4 =>
  bnd (M_loses v1 v2 μ4) fun μ5 =>
  some μ5
def M_cursesOne (v1 : Int32) (v2 : Int32) (μ : Mm) : Option Mm :=
  chv ((nI 199) + v1) 712 <|
  bnd2 (M_illOf v1 v2 μ) fun r2 μ1 =>
  if 0 ≤ ((μ.1 1 (ix ((nI 199) + v1))) - r2) then
    M_cursesOne_j36 v1 v2 ((nI 199) + v1) ((μ.1 1 (ix ((nI 199) + v1))) - r2) μ1
  else
    M_cursesOne_j36 v1 v2 ((nI 199) + v1) (nI 0) μ1
def M_curses_l12 (v1 : Int32) (v2 : Int32) (μ : Mm) : Option ((Int32 × Mm) ⊕ Mm) :=
  chv v1 16 <|
  if (μ.1 5 (ix v1)) = (nI 2) then
    some (.inr μ)
  else
    chv ((nI 263) + v1) 712 <|
    if (μ.1 1 (ix ((nI 263) + v1))) ≤ v2 then
      some (.inr μ)
    else
      bnd (M_letterAt v1 v2) fun r1 =>
      chv (r1 + (nI 2)) 712 <|
      chv (nI 0) 712 <|
      if (μ.1 1 (ix (nI 0))) < (μ.1 1 (ix (r1 + (nI 2)))) then
        some (.inl ((v2 + (nI 1)), μ))
      else
        bnd (M_cursesOne v1 v2 μ) fun μ2 =>
        some (.inl (v2, μ2))
def M_curses_j74 (v1 : Int32) (μ : Mm) : Option ((Int32 × Mm) ⊕ Mm) :=
  some (.inl ((v1 + (nI 1)), μ))
def M_curses_l2 (v1 : Int32) (μ : Mm) : Option ((Int32 × Mm) ⊕ Mm) :=
  if (μ.1 0 6) ≤ v1 then
    some (.inr μ)
  else
    bni (iter 1000000 (fun s => M_curses_l12 v1 s.1 s.2) ((nI 0), μ)) fun x12 =>
    M_curses_j74 v1 x12
def M_curses (μ : Mm) : Option Mm :=
  bni (iter 1000000 (fun s => M_curses_l2 s.1 s.2) ((nI 0), μ)) fun x2 =>
  some x2
def M_goesBy_j15 (s0 : Int32) (μ : Mm) : Option (Int32 × Mm) :=
  bnd (M_allWrite μ) fun μ1 =>
  bnd (M_curses μ1) fun μ2 =>
  chv (nI 0) 712 <|
  chv (nI 0) 712 <|
  lt (sti μ2 1 (ix (nI 0)) ((μ2.1 1 (ix (nI 0))) + (nI 1))) fun μ3 =>
  some (s0, μ3)
def M_goesBy (μ : Mm) : Option (Int32 × Mm) :=
  if (μ.1 0 16) = 0 then
    bnd2 (M_arrives μ) fun r5 μ4 =>
    M_goesBy_j15 r5 μ4
  else
    M_goesBy_j15 (nI 0) μ
def M_days_l36 (v1 : Int32) (v2 : Int32) (v3 : Int32) (μ : Mm) : Option ((Int32 × Int32 × Mm) ⊕ (Int32 × Mm)) :=
  if v1 ≤ v3 then
    some (.inr (v2, μ))
  else
    bnd (M_keepsAhead μ) fun μ3 =>
    bnd2 (M_goesBy μ3) fun r5 μ4 =>
    some (.inl ((v2 + r5), (v3 + (nI 1)), μ4))
def M_days (v1 : Int32) (μ : Mm) : Option (Int32 × Mm) :=
  lt (sti μ 0 0 (nI 0)) fun μ1 =>
  bnd (M_isIn v1 (nI 1) (nI 60)) fun r2 =>
  if r2 = 0 then
    some ((-1), μ1)
  else
    chv (nI 0) 712 <|
    if ((μ1.1 1 (ix (nI 0))) + v1) ≤ (nI 9999) then
      bni (iter 1000000 (fun s => M_days_l36 v1 s.1 s.2.1 s.2.2) ((nI 0), (nI 0), μ1)) fun x36 =>
      some (x36.1, x36.2)
    else
      some ((-1), μ1)
def M_hadBy (v1 : Int32) (μ : Mm) : Option Int32 :=
  chv ((nI 215) + v1) 712 <|
  bnd (M_ones (μ.1 1 (ix ((nI 215) + v1)))) fun r1 =>
  chv ((nI 231) + v1) 712 <|
  bnd (M_ones (μ.1 1 (ix ((nI 231) + v1)))) fun r2 =>
  some (r1 + r2)
def M_of (v1 : Int32) (v2 : Int32) (μ : Mm) : Option (Int32 × Mm) :=
  lt (sti μ 0 0 (nI 0)) fun μ1 =>
  bnd (M_isPerson v1 μ1) fun r2 =>
  if r2 = 0 then
    some ((-1), μ1)
  else
    if v2 = 0 then
      chv v1 16 <|
      some ((μ1.1 4 (ix v1)), μ1)
    else
      if v2 = (nI 1) then
        chv v1 16 <|
        some ((μ1.1 5 (ix v1)), μ1)
      else
        if v2 = (nI 2) then
          chv v1 16 <|
          some ((μ1.1 6 (ix v1)), μ1)
        else
          if v2 = (nI 3) then
            chv ((nI 183) + v1) 712 <|
            some ((μ1.1 1 (ix ((nI 183) + v1))), μ1)
          else
            if v2 = (nI 4) then
              chv ((nI 199) + v1) 712 <|
              some ((μ1.1 1 (ix ((nI 199) + v1))), μ1)
            else
              if v2 = (nI 5) then
                bnd (M_isStopped v1 μ1) fun r5 =>
                if r5 = 0 then
                  some ((nI 0), μ1)
                else
                  some ((nI 1), μ1)
              else
                if v2 = (nI 6) then
                  chv ((nI 263) + v1) 712 <|
                  some ((μ1.1 1 (ix ((nI 263) + v1))), μ1)
                else
                  if v2 = (nI 7) then
                    chv v1 16 <|
                    some ((μ1.1 7 (ix v1)), μ1)
                  else
                    if v2 = (nI 8) then
                      chv ((nI 167) + v1) 712 <|
                      some ((μ1.1 1 (ix ((nI 167) + v1))), μ1)
                    else
                      if v2 = (nI 9) then
                        bnd (M_hadBy v1 μ1) fun r4 =>
                        some (r4, μ1)
                      else
                        if v2 = (nI 10) then
                          chv ((nI 247) + v1) 712 <|
                          some ((μ1.1 1 (ix ((nI 247) + v1))), μ1)
                        else
                          chv v1 16 <|
                          bnd (M_isIn v2 (nI 20) ((nI 19) + (μ1.1 7 (ix v1)))) fun r3 =>
                          if r3 = 0 then
                            some ((-1), μ1)
                          else
                            chv ((((nI 9) * v1) + v2) - (nI 20)) 144 <|
                            some ((μ1.1 8 (ix ((((nI 9) * v1) + v2) - (nI 20)))), μ1)
def M_addressesOf_l4 (v1 : Int32) (v2 : Int32) (v3 : Int32) (μ : Mm) : Option ((Int32 × Int32) ⊕ Int32) :=
  chv v1 16 <|
  if (μ.1 7 (ix v1)) ≤ v3 then
    some (.inr v2)
  else
    chv (((nI 9) * v1) + v3) 144 <|
    lt (v2 ||| ((nI 1) <<< ((μ.1 8 (ix (((nI 9) * v1) + v3))) &&& 31))) fun u1 =>
    some (.inl (u1, (v3 + (nI 1))))
def M_addressesOf (v1 : Int32) (μ : Mm) : Option Int32 :=
  bni (iter 1000000 (fun s => M_addressesOf_l4 v1 s.1 s.2 μ) ((nI 0), (nI 0))) fun x4 =>
  some x4
def M_stampsOf_j101 (v1 : Int32) (v2 : Int32) (v3 : Int32) (v4 : Int32) (v5 : Int32) (v6 : Int32) (v7 : Int32) (μ : Mm) : Option ((Int32 × Int32) ⊕ Int32) :=
  some (.inl (v6, (v7 + (nI 1))))
def M_stampsOf_j97 (v1 : Int32) (v2 : Int32) (v3 : Int32) (v4 : Int32) (v5 : Int32) (v7 : Int32) (μ : Mm) : Option ((Int32 × Int32) ⊕ Int32) :=
  M_stampsOf_j101 v1 v2 v3 v4 v5 v7 v7 μ
def M_stampsOf_l35 (v1 : Int32) (v2 : Int32) (v3 : Int32) (v4 : Int32) (v5 : Int32) (v6 : Int32) (v7 : Int32) (μ : Mm) : Option ((Int32 × Int32) ⊕ Int32) :=
  if (μ.1 0 6) ≤ v7 then
    some (.inr v6)
  else
    if ((v3 >>> (v7 &&& 31)) &&& (nI 1)) = (nI 1) then
      if v6 = (-1) then
        M_stampsOf_j97 v1 v2 v3 v4 v5 v7 μ
      else
        chv v1 16 <|
        chv v7 16 <|
        bnd (M_postOf (μ.1 4 (ix v1)) (μ.1 4 (ix v7)) μ) fun r3 =>
        chv v1 16 <|
        chv v6 16 <|
        bnd (M_postOf (μ.1 4 (ix v1)) (μ.1 4 (ix v6)) μ) fun r4 =>
        if r4 ≤ r3 then
          M_stampsOf_j101 v1 v2 v3 v4 v5 v6 v7 μ
        else
          M_stampsOf_j97 v1 v2 v3 v4 v5 v7 μ
    else
      M_stampsOf_j101 v1 v2 v3 v4 v5 v6 v7 μ
def M_stampsOf_l23 (v1 : Int32) (v2 : Int32) (v3 : Int32) (v4 : Int32) (v5 : Int32) (μ : Mm) : Option ((Int32 × Int32 × Int32) ⊕ Int32) :=
  if v2 ≤ v5 then
    some (.inr v4)
  else
    bni (iter 1000000 (fun s => M_stampsOf_l35 v1 v2 v3 v4 v5 s.1 s.2 μ) ((-1), (nI 0))) fun x35 =>
    chv v1 16 <|
    chv x35 16 <|
    bnd (M_postOf (μ.1 4 (ix v1)) (μ.1 4 (ix x35)) μ) fun r5 =>
    lt (v3 &&& (((nI 1) <<< (x35 &&& 31)) ^^^ (-1))) fun u6 =>
    some (.inl (u6, (v4 + r5), (v5 + (nI 1))))
def M_stampsOf (v1 : Int32) (v2 : Int32) (μ : Mm) : Option Int32 :=
  bnd (M_addressesOf v1 μ) fun r1 =>
  bnd (M_ones r1) fun r2 =>
  if v2 ≤ r2 then
    bni (iter 1000000 (fun s => M_stampsOf_l23 v1 v2 s.1 s.2.1 s.2.2 μ) (r1, (nI 0), (nI 0))) fun x23 =>
    some x23
  else
    some (-1)
def M_letter (v1 : Int32) (v2 : Int32) (v3 : Int32) (μ : Mm) : Option (Int32 × Mm) :=
  lt (sti μ 0 0 (nI 0)) fun μ1 =>
  bnd (M_hasLetter v1 v2 μ1) fun r2 =>
  if r2 = 0 then
    some ((-2), μ1)
  else
    bnd (M_isIn v3 (nI 0) (nI 6)) fun r3 =>
    if r3 = 0 then
      some ((-2), μ1)
    else
      bnd (M_letterAt v1 v2) fun r4 =>
      if v3 = 0 then
        chv (r4 + (nI 0)) 712 <|
        some ((μ1.1 1 (ix (r4 + (nI 0)))), μ1)
      else
        if v3 = (nI 1) then
          chv (r4 + (nI 1)) 712 <|
          some (((μ1.1 1 (ix (r4 + (nI 1)))) - (nI 1)), μ1)
        else
          if v3 = (nI 2) then
            chv (r4 + (nI 2)) 712 <|
            some ((μ1.1 1 (ix (r4 + (nI 2)))), μ1)
          else
            if v3 = (nI 3) then
              chv (r4 + (nI 3)) 712 <|
              some ((μ1.1 1 (ix (r4 + (nI 3)))), μ1)
            else
              if v3 = (nI 4) then
                bnd2 (M_writeOf v1 v2 μ1) fun r9 μ8 =>
                some (r9, μ8)
              else
                if v3 = (nI 5) then
                  bnd2 (M_illOf v1 v2 μ1) fun r7 μ6 =>
                  some (r7, μ6)
                else
                  chv (r4 + (nI 3)) 712 <|
                  bnd (M_stampsOf v1 (μ1.1 1 (ix (r4 + (nI 3)))) μ1) fun r5 =>
                  some (r5, μ1)
def M_onWay (v1 : Int32) (v2 : Int32) (μ : Mm) : Option (Int32 × Mm) :=
  lt (sti μ 0 0 (nI 0)) fun μ1 =>
  chv (nI 471) 712 <|
  bnd (M_isIn v1 (nI 0) ((μ1.1 1 (ix (nI 471))) - (nI 1))) fun r2 =>
  if r2 = 0 then
    some ((-1), μ1)
  else
    bnd (M_isIn v2 (nI 0) (nI 3)) fun r3 =>
    if r3 = 0 then
      some ((-1), μ1)
    else
      chv (((nI 472) + ((nI 4) * v1)) + v2) 712 <|
      some ((μ1.1 1 (ix (((nI 472) + ((nI 4) * v1)) + v2))), μ1)
def M_lettersOf_j52 (v1 : Int32) (v2 : Int32) (v3 : Int32) (v4 : Int32) (μ : Mm) : Option ((Int32 × Int32) ⊕ Int32) :=
  some (.inl (v2, (v4 + (nI 1))))
def M_lettersOf_l15 (v1 : Int32) (v2 : Int32) (v3 : Int32) (v4 : Int32) (μ : Mm) : Option ((Int32 × Int32) ⊕ Int32) :=
  chv ((nI 263) + v3) 712 <|
  if (μ.1 1 (ix ((nI 263) + v3))) ≤ v4 then
    some (.inr v2)
  else
    bnd (M_letterAt v3 v4) fun r1 =>
    chv (r1 + (nI 0)) 712 <|
    if (μ.1 1 (ix (r1 + (nI 0)))) = v1 then
      M_lettersOf_j52 v1 (v2 + (nI 1)) v3 v4 μ
    else
      M_lettersOf_j52 v1 v2 v3 v4 μ
def M_lettersOf_l4 (v1 : Int32) (v2 : Int32) (v3 : Int32) (μ : Mm) : Option ((Int32 × Int32) ⊕ Int32) :=
  if (μ.1 0 6) ≤ v3 then
    some (.inr v2)
  else
    bni (iter 1000000 (fun s => M_lettersOf_l15 v1 s.1 v3 s.2 μ) (v2, (nI 0))) fun x15 =>
    some (.inl (x15, (v3 + (nI 1))))
def M_lettersOf_j100 (v1 : Int32) (v2 : Int32) (v3 : Int32) (μ : Mm) : Option ((Int32 × Int32) ⊕ Int32) :=
  some (.inl (v2, (v3 + (nI 1))))
def M_lettersOf_l66 (v1 : Int32) (v2 : Int32) (v3 : Int32) (μ : Mm) : Option ((Int32 × Int32) ⊕ Int32) :=
  chv (nI 471) 712 <|
  if (μ.1 1 (ix (nI 471))) ≤ v3 then
    some (.inr v2)
  else
    chv (((nI 472) + ((nI 4) * v3)) + (nI 0)) 712 <|
    if (μ.1 1 (ix (((nI 472) + ((nI 4) * v3)) + (nI 0)))) = v1 then
      M_lettersOf_j100 v1 (v2 + (nI 1)) v3 μ
    else
      M_lettersOf_j100 v1 v2 v3 μ
def M_lettersOf (v1 : Int32) (μ : Mm) : Option Int32 :=
  bni (iter 1000000 (fun s => M_lettersOf_l4 v1 s.1 s.2 μ) ((nI 0), (nI 0))) fun x4 =>
  bni (iter 1000000 (fun s => M_lettersOf_l66 v1 s.1 s.2 μ) (x4, (nI 0))) fun x66 =>
  some x66
def M_didHave (v1 : Int32) (v2 : Int32) (μ : Mm) : Option Int32 :=
  if (nI 20) ≤ v2 then
    chv ((nI 231) + v1) 712 <|
    if (((μ.1 1 (ix ((nI 231) + v1))) >>> ((v2 - (nI 20)) &&& 31)) &&& (nI 1)) = (nI 1) then
      some (nI 1)
    else
      some (nI 0)
  else
    chv ((nI 215) + v1) 712 <|
    if (((μ.1 1 (ix ((nI 215) + v1))) >>> (v2 &&& 31)) &&& (nI 1)) = (nI 1) then
      some (nI 1)
    else
      some (nI 0)
def M_didAnyHave_l2 (v1 : Int32) (v2 : Int32) (μ : Mm) : Option (Int32 ⊕ (Unit ⊕ Unit)) :=
  if (μ.1 0 6) ≤ v2 then
    some (.inr (Sum.inr ()))
  else
    bnd (M_didHave v2 v1 μ) fun r1 =>
    if r1 = 0 then
      some (.inl (v2 + (nI 1)))
    else
      some (.inr (Sum.inl ()))
def M_didAnyHave (v1 : Int32) (μ : Mm) : Option Int32 :=
  bni (iter 1000000 (fun s => M_didAnyHave_l2 v1 s μ) (nI 0)) fun x2 => 
  (Sum.elim (fun x2a =>
    some (nI 1))
    (fun x2b =>
      some (nI 0))) x2
def M_cameOf_l2 (v2 : Int32) (v3 : Int32) (μ : Mm) : Option (Int32 ⊕ Int32) :=
  if v3 = (-1) then
    some (.inr v3)
  else
    if v3 = v2 then
      some (.inr v3)
    else
      chv ((nI 87) + v3) 712 <|
      some (.inl ((μ.1 1 (ix ((nI 87) + v3))) - (nI 1)))
def M_cameOf_j27 (v2 : Int32) (v3 : Int32) (μ : Mm) : Option Int32 :=
  if v3 = v2 then
    some (nI 1)
  else
    some (nI 0)
def M_cameOf (v1 : Int32) (v2 : Int32) (μ : Mm) : Option Int32 :=
  bni (iter 1000000 (fun s => M_cameOf_l2 v2 s μ) v1) fun x2 =>
  M_cameOf_j27 v2 x2 μ
def M_childrenOf_j33 (v1 : Int32) (v2 : Int32) (v3 : Int32) (μ : Mm) : Option ((Int32 × Int32) ⊕ Int32) :=
  some (.inl (v2, (v3 + (nI 1))))
def M_childrenOf_l4 (v1 : Int32) (v2 : Int32) (v3 : Int32) (μ : Mm) : Option ((Int32 × Int32) ⊕ Int32) :=
  chv (nI 6) 712 <|
  if (μ.1 1 (ix (nI 6))) ≤ v3 then
    some (.inr v2)
  else
    if v3 = v1 then
      M_childrenOf_j33 v1 v2 v3 μ
    else
      bnd (M_cameOf v3 v1 μ) fun r1 =>
      if r1 = 0 then
        M_childrenOf_j33 v1 v2 v3 μ
      else
        M_childrenOf_j33 v1 (v2 + (nI 1)) v3 μ
def M_childrenOf (v1 : Int32) (μ : Mm) : Option Int32 :=
  bni (iter 1000000 (fun s => M_childrenOf_l4 v1 s.1 s.2 μ) ((nI 0), (nI 0))) fun x4 =>
  some x4
def M_kind (v1 : Int32) (v2 : Int32) (μ : Mm) : Option (Int32 × Mm) :=
  lt (sti μ 0 0 (nI 0)) fun μ1 =>
  bnd (M_isVersion v1 μ1) fun r2 =>
  if r2 = 0 then
    some ((-2), μ1)
  else
    if v2 = 0 then
      chv ((nI 7) + v1) 712 <|
      some ((μ1.1 1 (ix ((nI 7) + v1))), μ1)
    else
      if v2 = (nI 1) then
        chv ((nI 47) + v1) 712 <|
        some ((μ1.1 1 (ix ((nI 47) + v1))), μ1)
      else
        if v2 = (nI 2) then
          chv ((nI 87) + v1) 712 <|
          some (((μ1.1 1 (ix ((nI 87) + v1))) - (nI 1)), μ1)
        else
          if v2 = (nI 3) then
            chv ((nI 127) + v1) 712 <|
            some (((μ1.1 1 (ix ((nI 127) + v1))) - (nI 1)), μ1)
          else
            if v2 = (nI 4) then
              bnd (M_childrenOf v1 μ1) fun r5 =>
              some (r5, μ1)
            else
              if v2 = (nI 5) then
                bnd (M_lettersOf v1 μ1) fun r4 =>
                some (r4, μ1)
              else
                if v2 = (nI 6) then
                  bnd (M_didAnyHave v1 μ1) fun r3 =>
                  if r3 = 0 then
                    some ((nI 0), μ1)
                  else
                    some ((nI 1), μ1)
                else
                  some ((-2), μ1)
def M_isTown (v1 : Int32) : Option Int32 :=
  if v1 < 0 then
    some (nI 0)
  else
    if (nI 6) ≤ v1 then
      some (nI 0)
    else
      some (nI 1)
def M_post (v1 : Int32) (v2 : Int32) (μ : Mm) : Option (Int32 × Mm) :=
  lt (sti μ 0 0 (nI 0)) fun μ1 =>
  bnd (M_isTown v1) fun r2 =>
  if r2 = 0 then
    some ((-1), μ1)
  else
    bnd (M_isTown v2) fun r3 =>
    if r3 = 0 then
      some ((-1), μ1)
    else
      bnd (M_postOf v1 v2 μ1) fun r4 =>
      some (r4, μ1)
def M_book (v1 : Int32) (v2 : Int32) (μ : Mm) : Option (Int32 × Mm) :=
  lt (sti μ 0 0 (nI 0)) fun μ1 =>
  chv (nI 2) 712 <|
  bnd (M_isIn v1 (nI 0) ((μ1.1 1 (ix (nI 2))) - (nI 1))) fun r2 =>
  if r2 = 0 then
    some ((-2), μ1)
  else
    bnd (M_isIn v2 (nI 0) (nI 4)) fun r3 =>
    if r3 = 0 then
      some ((-2), μ1)
    else
      chv (((nI 5) * v1) + v2) 1000 <|
      some ((μ1.1 10 (ix (((nI 5) * v1) + v2))), μ1)
def M_heldIn_j40 (v1 : Int32) (v2 : Int32) (v3 : Int32) (μ : Mm) : Option ((Int32 × Int32) ⊕ Int32) :=
  some (.inl (v2, (v3 + (nI 1))))
def M_heldIn_j27 (v1 : Int32) (v2 : Int32) (v3 : Int32) (μ : Mm) : Option ((Int32 × Int32) ⊕ Int32) :=
  chv ((nI 263) + v3) 712 <|
  M_heldIn_j40 v1 (v2 + (μ.1 1 (ix ((nI 263) + v3)))) v3 μ
def M_heldIn_l4 (v1 : Int32) (v2 : Int32) (v3 : Int32) (μ : Mm) : Option ((Int32 × Int32) ⊕ Int32) :=
  if (μ.1 0 6) ≤ v3 then
    some (.inr v2)
  else
    if v1 = (-1) then
      M_heldIn_j27 v1 v2 v3 μ
    else
      chv v3 16 <|
      if (μ.1 4 (ix v3)) = v1 then
        M_heldIn_j27 v1 v2 v3 μ
      else
        M_heldIn_j40 v1 v2 v3 μ
def M_heldIn (v1 : Int32) (μ : Mm) : Option Int32 :=
  bni (iter 1000000 (fun s => M_heldIn_l4 v1 s.1 s.2 μ) ((nI 0), (nI 0))) fun x4 =>
  some x4
def M_many_l37 (v1 : Int32) (v2 : Int32) (v3 : Int32) (μ : Mm) : Option ((Int32 × Mm) ⊕ Mm) :=
  if v1 ≤ v3 then
    some (.inr μ)
  else
    bnd2 (M_goesBy μ) fun r5 μ4 =>
    some (.inl ((v3 + (nI 1)), μ4))
def M_many_j31 (v1 : Int32) (v2 : Int32) (μ : Mm) : Option (Int32 × Mm) :=
  bnd (M_thinks μ) fun μ3 =>
  bni (iter 1000000 (fun s => M_many_l37 v1 v2 s.1 s.2) ((nI 0), μ3)) fun x37 =>
  bnd (M_heldIn v2 x37) fun r6 =>
  bnd (M_endsThought x37) fun μ7 =>
  some (r6, μ7)
def M_many (v1 : Int32) (v2 : Int32) (μ : Mm) : Option (Int32 × Mm) :=
  lt (sti μ 0 0 (nI 0)) fun μ1 =>
  bnd (M_isIn v1 (nI 0) (nI 99)) fun r2 =>
  if r2 = 0 then
    some ((-1), μ1)
  else
    if v2 = (-1) then
      M_many_j31 v1 v2 μ1
    else
      bnd (M_isTown v2) fun r8 =>
      if r8 = 0 then
        some ((-1), μ1)
      else
        M_many_j31 v1 v2 μ1
def M_isOver_j48 (v1 : Int32) (μ : Mm) : Option (Int32 ⊕ (Unit ⊕ Unit)) :=
  some (.inl (v1 + (nI 1)))
def M_isOver_l15 (v1 : Int32) (μ : Mm) : Option (Int32 ⊕ (Unit ⊕ Unit)) :=
  if (μ.1 0 6) ≤ v1 then
    some (.inr (Sum.inr ()))
  else
    chv v1 16 <|
    if (μ.1 5 (ix v1)) = (nI 2) then
      M_isOver_j48 v1 μ
    else
      chv ((nI 263) + v1) 712 <|
      if (μ.1 1 (ix ((nI 263) + v1))) ≤ 0 then
        M_isOver_j48 v1 μ
      else
        some (.inr (Sum.inl ()))
def M_isOver (μ : Mm) : Option Int32 :=
  chv (nI 471) 712 <|
  if (μ.1 1 (ix (nI 471))) ≤ 0 then
    bni (iter 1000000 (fun s => M_isOver_l15 s μ) (nI 0)) fun x15 => 
    (Sum.elim (fun x15a =>
      some (nI 0))
      (fun x15b =>
        some (nI 1))) x15
  else
    some (nI 0)
def M_overBy_l2 (v1 : Int32) (v2 : Int32) (μ : Mm) : Option ((Int32 × Mm) ⊕ (Int32 × Mm)) :=
  if v1 ≤ v2 then
    some (.inr (v2, μ))
  else
    bnd (M_isOver μ) fun r1 =>
    if r1 = 0 then
      bnd2 (M_goesBy μ) fun r3 μ2 =>
      some (.inl ((v2 + (nI 1)), μ2))
    else
      some (.inr (v2, μ))
def M_overBy_j26 (v2 : Int32) (μ : Mm) : Option (Int32 × Mm) :=
  bnd (M_isOver μ) fun r4 =>
  if r4 = 0 then
    some ((-1), μ)
  else
    some (v2, μ)
def M_overBy (v1 : Int32) (μ : Mm) : Option (Int32 × Mm) :=
  bni (iter 1000000 (fun s => M_overBy_l2 v1 s.1 s.2) ((nI 0), μ)) fun x2 =>
  M_overBy_j26 x2.1 x2.2
def M_over (μ : Mm) : Option (Int32 × Mm) :=
  lt (sti μ 0 0 (nI 0)) fun μ1 =>
  bnd (M_thinks μ1) fun μ2 =>
  bnd2 (M_overBy (nI 200) μ2) fun r4 μ3 =>
  bnd (M_endsThought μ3) fun μ5 =>
  some (r4, μ5)
def M_isOverWithout_j29 (v3 : Int32) (s0 : Int32) (μ : Mm) : Option (Int32 × Mm) :=
  lt (sti μ 0 10 v3) fun μ4 =>
  bnd (M_thinksAnew μ4) fun μ5 =>
  chk (s0 = 0 ∨ s0 = 1) <|
  some (s0, μ5)
def M_isOverWithout (v1 : Int32) (v2 : Int32) (μ : Mm) : Option (Int32 × Mm) :=
  lt (sti μ 0 10 ((μ.1 0 10) ||| v1)) fun μ1 =>
  bnd2 (M_overBy v2 μ1) fun r3 μ2 =>
  if r3 = (-1) then
    M_isOverWithout_j29 (μ.1 0 10) (nI 0) μ2
  else
    M_isOverWithout_j29 (μ.1 0 10) (nI 1) μ2
def M_stop_j78 (v1 : Int32) (v2 : Int32) (v3 : Int32) (v4 : Int32) (μ : Mm) : Option ((Int32 × Int32 × Mm) ⊕ (Int32 × Mm)) :=
  some (.inl (v2, (v4 + (nI 1)), μ))
def M_stop_l39 (v1 : Int32) (v2 : Int32) (v3 : Int32) (v4 : Int32) (μ : Mm) : Option ((Int32 × Int32 × Mm) ⊕ (Int32 × Mm)) :=
  if ((nI 1) <<< ((μ.1 0 6) &&& 31)) ≤ v4 then
    some (.inr (v2, μ))
  else
    if v2 = (-1) then
      bnd (M_ones v4) fun r4 =>
      if r4 = v3 then
        bnd2 (M_isOverWithout v4 v1 μ) fun r6 μ5 =>
        if r6 = 0 then
          M_stop_j78 v1 v2 v3 v4 μ5
        else
          M_stop_j78 v1 v4 v3 v4 μ5
      else
        M_stop_j78 v1 v2 v3 v4 μ
    else
      some (.inr (v2, μ))
def M_stop_j84 (v1 : Int32) (v2 : Int32) (v3 : Int32) (μ : Mm) : Option ((Int32 × Int32 × Mm) ⊕ (Int32 × Mm)) :=
  some (.inl (v2, (v3 + (nI 1)), μ))
def M_stop_l26 (v1 : Int32) (v2 : Int32) (v3 : Int32) (μ : Mm) : Option ((Int32 × Int32 × Mm) ⊕ (Int32 × Mm)) :=
  if (nI 3) < v3 then
    some (.inr (v2, μ))
  else
    if v2 = (-1) then
      bni (iter 1000000 (fun s => M_stop_l39 v1 s.1 v3 s.2.1 s.2.2) (v2, (nI 0), μ)) fun x39 =>
      M_stop_j84 v1 x39.1 v3 x39.2
    else
      some (.inr (v2, μ))
def M_stop_j90 (v2 : Int32) (μ : Mm) : Option (Int32 × Mm) :=
  bnd (M_endsThought μ) fun μ7 =>
  some (v2, μ7)
def M_stop (v1 : Int32) (μ : Mm) : Option (Int32 × Mm) :=
  lt (sti μ 0 0 (nI 0)) fun μ1 =>
  bnd (M_isIn v1 (nI 0) (nI 99)) fun r2 =>
  if r2 = 0 then
    some ((-1), μ1)
  else
    bnd (M_thinks μ1) fun μ3 =>
    bni (iter 1000000 (fun s => M_stop_l26 v1 s.1 s.2.1 s.2.2) ((-1), (nI 0), μ3)) fun x26 =>
    M_stop_j90 x26.1 x26.2
def M_goesOnFrom (v1 : Int32) (μ : Mm) : Option Int32 :=
  chv v1 16 <|
  if (μ.1 5 (ix v1)) = 0 then
    bnd (M_isStopped v1 μ) fun r1 =>
    if r1 = 0 then
      some (nI 1)
    else
      some (nI 0)
  else
    some (nI 0)
def M_reachOf_j60 (v2 : Int32) (v3 : Int32) (v4 : Int32) (v5 : Int32) (v6 : Int32) (μ : Mm) : Option ((Int32 × Int32) ⊕ Int32) :=
  some (.inl (v5, (v6 + (nI 1))))
def M_reachOf_l21 (v2 : Int32) (v3 : Int32) (v4 : Int32) (v5 : Int32) (v6 : Int32) (μ : Mm) : Option ((Int32 × Int32) ⊕ Int32) :=
  if (μ.1 0 6) ≤ v6 then
    some (.inr v5)
  else
    if ((v3 >>> (v6 &&& 31)) &&& (nI 1)) = (nI 1) then
      bnd (M_goesOnFrom v6 μ) fun r2 =>
      if r2 = 0 then
        M_reachOf_j60 v2 v3 v4 v5 v6 μ
      else
        bnd (M_addressesOf v6 μ) fun r3 =>
        M_reachOf_j60 v2 v3 v4 (v5 ||| r3) v6 μ
    else
      M_reachOf_j60 v2 v3 v4 v5 v6 μ
def M_reachOf_l9 (v2 : Int32) (v3 : Int32) (v4 : Int32) (μ : Mm) : Option ((Int32 × Int32) ⊕ Int32) :=
  if v2 ≤ v4 then
    some (.inr v3)
  else
    bni (iter 1000000 (fun s => M_reachOf_l21 v2 v3 v4 s.1 s.2 μ) (v3, (nI 0))) fun x21 =>
    some (.inl (x21, (v4 + (nI 1))))
def M_reachOf (v1 : Int32) (v2 : Int32) (μ : Mm) : Option Int32 :=
  bnd (M_addressesOf v1 μ) fun r1 =>
  bni (iter 1000000 (fun s => M_reachOf_l9 v2 s.1 s.2 μ) (r1, (nI 1))) fun x9 =>
  some x9
def M_reach (v1 : Int32) (μ : Mm) : Option (Int32 × Mm) :=
  lt (sti μ 0 0 (nI 0)) fun μ1 =>
  bnd (M_isPerson v1 μ1) fun r2 =>
  if r2 = 0 then
    some ((-1), μ1)
  else
    bnd (M_reachOf v1 (nI 16) μ1) fun r3 =>
    some (r3, μ1)
def M_sources_j75 (v1 : Int32) (v2 : Int32) (v3 : Int32) (v4 : Int32) (μ : Mm) : Option ((Int32 × Int32) ⊕ Int32) :=
  some (.inl (v3, (v4 + (nI 1))))
def M_sources_l38 (v1 : Int32) (v2 : Int32) (v3 : Int32) (v4 : Int32) (μ : Mm) : Option ((Int32 × Int32) ⊕ Int32) :=
  if (μ.1 0 6) ≤ v4 then
    some (.inr v3)
  else
    bnd (M_reachOf v4 v2 μ) fun r3 =>
    if ((v1 &&& (((nI 1) <<< (v4 &&& 31)) ^^^ (-1))) &&& (r3 ^^^ (-1))) = 0 then
      M_sources_j75 v1 v2 (v3 ||| ((nI 1) <<< (v4 &&& 31))) v4 μ
    else
      M_sources_j75 v1 v2 v3 v4 μ
def M_sources (v1 : Int32) (v2 : Int32) (μ : Mm) : Option (Int32 × Mm) :=
  lt (sti μ 0 0 (nI 0)) fun μ1 =>
  if v1 < (nI 1) then
    some ((-1), μ1)
  else
    if ((nI 1) <<< ((μ1.1 0 6) &&& 31)) ≤ v1 then
      some ((-1), μ1)
    else
      bnd (M_isIn v2 (nI 1) (nI 15)) fun r2 =>
      if r2 = 0 then
        some ((-1), μ1)
      else
        bni (iter 1000000 (fun s => M_sources_l38 v1 v2 s.1 s.2 μ1) ((nI 0), (nI 0))) fun x38 =>
        some (x38, μ1)
def M_circle_l17 (v1 : Int32) (v2 : Int32) (μ : Mm) : Option (Int32 ⊕ (Int32 ⊕ Unit)) :=
  if (nI 16) < v2 then
    some (.inr (Sum.inr ()))
  else
    bnd (M_reachOf v1 v2 μ) fun r3 =>
    if ((r3 >>> (v1 &&& 31)) &&& (nI 1)) = (nI 1) then
      some (.inr (Sum.inl v2))
    else
      some (.inl (v2 + (nI 1)))
def M_circle (v1 : Int32) (μ : Mm) : Option (Int32 × Mm) :=
  lt (sti μ 0 0 (nI 0)) fun μ1 =>
  bnd (M_isPerson v1 μ1) fun r2 =>
  if r2 = 0 then
    some ((-1), μ1)
  else
    bni (iter 1000000 (fun s => M_circle_l17 v1 s μ1) (nI 1)) fun x17 => 
    (Sum.elim (fun x17a =>
      some (x17a, μ1))
      (fun x17b =>
        some ((-1), μ1))) x17
def M_pick_l38 (v1 : Int32) (v2 : Int32) (μ : Mm) : Option (Int32 ⊕ (Unit ⊕ Unit)) :=
  if (μ.1 0 17) ≤ v2 then
    some (.inr (Sum.inr ()))
  else
    chv v2 8 <|
    if (μ.1 9 (ix v2)) = v1 then
      some (.inr (Sum.inl ()))
    else
      some (.inl (v2 + (nI 1)))
def M_pick (v1 : Int32) (μ : Mm) : Option (Int32 × Mm) :=
  lt (sti μ 0 0 (nI 0)) fun μ1 =>
  if v1 = (-1) then
    lt (sti μ1 0 17 (nI 0)) fun μ5 =>
    some ((nI 0), μ5)
  else
    bnd (M_isVersion v1 μ1) fun r2 =>
    if r2 = 0 then
      some ((-1), μ1)
    else
      if (μ1.1 0 17) = (nI 8) then
        some ((-1), μ1)
      else
        bni (iter 1000000 (fun s => M_pick_l38 v1 s μ1) (nI 0)) fun x38 => 
        (Sum.elim (fun x38a =>
          some ((-1), μ1))
          (fun x38b =>
            chv (μ1.1 0 17) 8 <|
            lt (sti μ1 9 (ix (μ1.1 0 17)) v1) fun μ3 =>
            lt (sti μ3 0 17 ((μ3.1 0 17) + (nI 1))) fun μ4 =>
            some ((μ4.1 0 17), μ4))) x38
def M_apartOf (v1 : Int32) (v2 : Int32) (μ : Mm) : Option Int32 :=
  chv v1 8 <|
  chv ((nI 47) + (μ.1 9 (ix v1))) 712 <|
  chv v2 8 <|
  chv ((nI 47) + (μ.1 9 (ix v2))) 712 <|
  bnd (M_ones ((μ.1 1 (ix ((nI 47) + (μ.1 9 (ix v1))))) ^^^ (μ.1 1 (ix ((nI 47) + (μ.1 9 (ix v2))))))) fun r1 =>
  some r1
def M_nearest_j76 (v1 : Int32) (v2 : Int32) (v3 : Int32) (v4 : Int32) (v5 : Int32) (μ : Mm) : Option ((Int32 × Int32 × Int32) ⊕ (Int32 × Int32)) :=
  some (.inl (v2, v3, (v5 + (nI 1))))
def M_nearest_l21 (v1 : Int32) (v2 : Int32) (v3 : Int32) (v4 : Int32) (v5 : Int32) (μ : Mm) : Option ((Int32 × Int32 × Int32) ⊕ (Int32 × Int32)) :=
  if (μ.1 0 17) ≤ v5 then
    some (.inr (v2, v3))
  else
    if ((v1 >>> (v4 &&& 31)) &&& (nI 1)) = (nI 1) then
      M_nearest_j76 v1 v2 v3 v4 v5 μ
    else
      if ((v1 >>> (v5 &&& 31)) &&& (nI 1)) = 0 then
        M_nearest_j76 v1 v2 v3 v4 v5 μ
      else
        bnd (M_apartOf v4 v5 μ) fun r1 =>
        if r1 < v3 then
          bnd (M_apartOf v4 v5 μ) fun r2 =>
          M_nearest_j76 v1 v4 r2 v4 v5 μ
        else
          M_nearest_j76 v1 v2 v3 v4 v5 μ
def M_nearest_l9 (v1 : Int32) (v2 : Int32) (v3 : Int32) (v4 : Int32) (μ : Mm) : Option ((Int32 × Int32 × Int32) ⊕ (Int32 × Int32)) :=
  if (μ.1 0 17) ≤ v4 then
    some (.inr (v2, v3))
  else
    bni (iter 1000000 (fun s => M_nearest_l21 v1 s.1 s.2.1 v4 s.2.2 μ) (v2, v3, (nI 0))) fun x21 =>
    some (.inl (x21.1, x21.2, (v4 + (nI 1))))
def M_nearest (v1 : Int32) (μ : Mm) : Option Int32 :=
  bni (iter 1000000 (fun s => M_nearest_l9 v1 s.1 s.2.1 s.2.2 μ) ((-1), (nI 1000000), (nI 0))) fun x9 =>
  some (((nI 100) * x9.2) + x9.1)
def M_join_l11 (v1 : Int32) (v2 : Int32) (v3 : Int32) (μ : Mm) : Option ((Int32 × Int32 × Int32) ⊕ Int32) :=
  if (μ.1 0 17) ≤ v3 then
    some (.inr v1)
  else
    bnd (M_nearest v2 μ) fun r2 =>
    chk (¬ ((nI 100) : Int32) = 0) <|
    chk (¬ ((nI 100) : Int32) = 0) <|
    lt (v2 ||| ((nI 1) <<< ((r2 - r2 / (nI 100) * (nI 100)) &&& 31))) fun u3 =>
    some (.inl ((v1 + (r2 / (nI 100))), u3, (v3 + (nI 1))))
def M_join (μ : Mm) : Option (Int32 × Mm) :=
  lt (sti μ 0 0 (nI 0)) fun μ1 =>
  bni (iter 1000000 (fun s => M_join_l11 s.1 s.2.1 s.2.2 μ1) ((nI 0), (nI 1), (nI 1))) fun x11 =>
  some (x11, μ1)
def M_forebear_j57 (v1 : Int32) (v2 : Int32) (v3 : Int32) (μ : Mm) : Option (Int32 ⊕ (Int32 ⊕ Unit)) :=
  some (.inl (v3 + (-1)))
def M_forebear_l33 (v1 : Int32) (v2 : Int32) (v3 : Int32) (μ : Mm) : Option (Int32 ⊕ (Int32 ⊕ Unit)) :=
  if v3 < 0 then
    some (.inr (Sum.inr ()))
  else
    bnd (M_cameOf v1 v3 μ) fun r4 =>
    if r4 = 0 then
      M_forebear_j57 v1 v2 v3 μ
    else
      bnd (M_cameOf v2 v3 μ) fun r5 =>
      if r5 = 0 then
        M_forebear_j57 v1 v2 v3 μ
      else
        some (.inr (Sum.inl v3))
def M_forebear (v1 : Int32) (v2 : Int32) (μ : Mm) : Option (Int32 × Mm) :=
  lt (sti μ 0 0 (nI 0)) fun μ1 =>
  bnd (M_isVersion v1 μ1) fun r2 =>
  if r2 = 0 then
    some ((-1), μ1)
  else
    bnd (M_isVersion v2 μ1) fun r3 =>
    if r3 = 0 then
      some ((-1), μ1)
    else
      chv (nI 6) 712 <|
      bni (iter 1000000 (fun s => M_forebear_l33 v1 v2 s μ1) ((μ1.1 1 (ix (nI 6))) - (nI 1))) fun x33 => 
      (Sum.elim (fun x33a =>
        some (x33a, μ1))
        (fun x33b =>
          some ((-1), μ1))) x33
def M_mostHeld_l2 (v1 : Int32) (μ : Mm) : Option ((Int32 × Mm) ⊕ Mm) :=
  if (nI 10) ≤ v1 then
    some (.inr μ)
  else
    chv v1 10 <|
    lt (sti μ 23 (ix v1) (nI 0)) fun μ1 =>
    some (.inl ((v1 + (nI 1)), μ1))
def M_mostHeld_l33 (v1 : Int32) (v2 : Int32) (μ : Mm) : Option ((Int32 × Mm) ⊕ Mm) :=
  chv ((nI 263) + v1) 712 <|
  if (μ.1 1 (ix ((nI 263) + v1))) ≤ v2 then
    some (.inr μ)
  else
    bnd (M_letterAt v1 v2) fun r2 =>
    chv (r2 + (nI 0)) 712 <|
    chv ((nI 7) + (μ.1 1 (ix (r2 + (nI 0))))) 712 <|
    lt (μ.1 1 (ix ((nI 7) + (μ.1 1 (ix (r2 + (nI 0))))))) fun u3 =>
    chv u3 10 <|
    chv u3 10 <|
    lt (sti μ 23 (ix u3) ((μ.1 23 (ix u3)) + (nI 1))) fun μ4 =>
    some (.inl ((v2 + (nI 1)), μ4))
def M_mostHeld_l23 (v1 : Int32) (μ : Mm) : Option ((Int32 × Mm) ⊕ Mm) :=
  if (μ.1 0 6) ≤ v1 then
    some (.inr μ)
  else
    bni (iter 1000000 (fun s => M_mostHeld_l33 v1 s.1 s.2) ((nI 0), μ)) fun x33 =>
    some (.inl ((v1 + (nI 1)), x33))
def M_mostHeld_j122 (v1 : Int32) (v2 : Int32) (μ : Mm) : Option ((Int32 × Int32) ⊕ Int32) :=
  some (.inl (v1, (v2 + (nI 1))))
def M_mostHeld_l99 (v1 : Int32) (v2 : Int32) (μ : Mm) : Option ((Int32 × Int32) ⊕ Int32) :=
  if (nI 10) ≤ v2 then
    some (.inr v1)
  else
    chv v2 10 <|
    chv v1 10 <|
    if (μ.1 23 (ix v2)) ≤ (μ.1 23 (ix v1)) then
      M_mostHeld_j122 v1 v2 μ
    else
      M_mostHeld_j122 v2 v2 μ
def M_mostHeld (μ : Mm) : Option (Int32 × Mm) :=
  bni (iter 1000000 (fun s => M_mostHeld_l2 s.1 s.2) ((nI 0), μ)) fun x2 =>
  bni (iter 1000000 (fun s => M_mostHeld_l23 s.1 s.2) ((nI 0), x2)) fun x23 =>
  bni (iter 1000000 (fun s => M_mostHeld_l99 s.1 s.2 x23) ((nI 0), (nI 1))) fun x99 =>
  chv x99 10 <|
  if (x23.1 23 (ix x99)) = 0 then
    some ((-1), x23)
  else
    some (x99, x23)
def M_lasts_l24 (v1 : Int32) (v2 : Int32) (μ : Mm) : Option ((Int32 × Mm) ⊕ Mm) :=
  if v1 ≤ v2 then
    some (.inr μ)
  else
    bnd2 (M_goesBy μ) fun r5 μ4 =>
    some (.inl ((v2 + (nI 1)), μ4))
def M_lasts (v1 : Int32) (μ : Mm) : Option (Int32 × Mm) :=
  lt (sti μ 0 0 (nI 0)) fun μ1 =>
  bnd (M_isIn v1 (nI 0) (nI 99)) fun r2 =>
  if r2 = 0 then
    some ((-1), μ1)
  else
    bnd (M_thinks μ1) fun μ3 =>
    bni (iter 1000000 (fun s => M_lasts_l24 v1 s.1 s.2) ((nI 0), μ3)) fun x24 =>
    bnd2 (M_mostHeld x24) fun r7 μ6 =>
    bnd (M_endsThought μ6) fun μ8 =>
    some (r7, μ8)
def M_knows_j45 (v1 : Int32) (v2 : Int32) (v3 : Int32) (μ : Mm) : Option ((Int32 × Int32) ⊕ Int32) :=
  some (.inl (v2, (v3 + (nI 1))))
def M_knows_l22 (v1 : Int32) (v2 : Int32) (v3 : Int32) (μ : Mm) : Option ((Int32 × Int32) ⊕ Int32) :=
  if (μ.1 0 6) ≤ v3 then
    some (.inr v2)
  else
    bnd (M_hadBy v3 μ) fun r3 =>
    if r3 < v1 then
      M_knows_j45 v1 v2 v3 μ
    else
      M_knows_j45 v1 (v2 ||| ((nI 1) <<< (v3 &&& 31))) v3 μ
def M_knows (v1 : Int32) (μ : Mm) : Option (Int32 × Mm) :=
  lt (sti μ 0 0 (nI 0)) fun μ1 =>
  bnd (M_isIn v1 (nI 0) (nI 40)) fun r2 =>
  if r2 = 0 then
    some ((-1), μ1)
  else
    bni (iter 1000000 (fun s => M_knows_l22 v1 s.1 s.2 μ1) ((nI 0), (nI 0))) fun x22 =>
    some (x22, μ1)
def M_kept (v1 : Int32) (μ : Mm) : Option (Int32 × Mm) :=
  lt (sti μ 0 49 ((μ.1 0 49) + (nI 1))) fun μ1 =>
  if (μ1.1 0 47) = 0 then
    chv ((μ1.1 0 49) - (nI 1)) 3900 <|
    some ((μ1.1 24 (ix ((μ1.1 0 49) - (nI 1)))), μ1)
  else
    chv ((μ1.1 0 49) - (nI 1)) 3900 <|
    lt (sti μ1 24 (ix ((μ1.1 0 49) - (nI 1))) v1) fun μ2 =>
    some (v1, μ2)
def M_keepsLaw_l21 (v1 : Int32) (v2 : Int32) (μ : Mm) : Option ((Int32 × Mm) ⊕ Mm) :=
  if (((nI 16) * v1) + (nI 16)) ≤ v2 then
    some (.inr μ)
  else
    chv v2 48 <|
    bnd2 (M_kept (μ.1 14 (ix v2)) μ) fun r5 μ4 =>
    chv v2 48 <|
    lt (sti μ4 14 (ix v2) r5) fun μ6 =>
    chv v2 48 <|
    bnd2 (M_kept (μ6.1 15 (ix v2)) μ6) fun r8 μ7 =>
    chv v2 48 <|
    lt (sti μ7 15 (ix v2) r8) fun μ9 =>
    chv v2 48 <|
    bnd2 (M_kept (μ9.1 16 (ix v2)) μ9) fun r11 μ10 =>
    chv v2 48 <|
    lt (sti μ10 16 (ix v2) r11) fun μ12 =>
    some (.inl ((v2 + (nI 1)), μ12))
def M_keepsLaw_l92 (v1 : Int32) (v2 : Int32) (μ : Mm) : Option ((Int32 × Mm) ⊕ Mm) :=
  if (((nI 400) * v1) + (nI 400)) ≤ v2 then
    some (.inr μ)
  else
    chv v2 1200 <|
    bnd2 (M_kept (μ.1 17 (ix v2)) μ) fun r14 μ13 =>
    chv v2 1200 <|
    lt (sti μ13 17 (ix v2) r14) fun μ15 =>
    chv v2 1200 <|
    bnd2 (M_kept (μ15.1 18 (ix v2)) μ15) fun r17 μ16 =>
    chv v2 1200 <|
    lt (sti μ16 18 (ix v2) r17) fun μ18 =>
    some (.inl ((v2 + (nI 1)), μ18))
def M_keepsLaw (v1 : Int32) (μ : Mm) : Option Mm :=
  chv v1 2 <|
  bnd2 (M_kept (μ.1 13 (ix v1)) μ) fun r2 μ1 =>
  chv v1 2 <|
  lt (sti μ1 13 (ix v1) r2) fun μ3 =>
  bni (iter 1000000 (fun s => M_keepsLaw_l21 v1 s.1 s.2) (((nI 16) * v1), μ3)) fun x21 =>
  bni (iter 1000000 (fun s => M_keepsLaw_l92 v1 s.1 s.2) (((nI 400) * v1), x21)) fun x92 =>
  some x92
def M_keepsPeople_l26 (v1 : Int32) (μ : Mm) : Option ((Int32 × Mm) ⊕ Mm) :=
  if (nI 16) ≤ v1 then
    some (.inr μ)
  else
    chv v1 16 <|
    bnd2 (M_kept (μ.1 4 (ix v1)) μ) fun r8 μ7 =>
    chv v1 16 <|
    lt (sti μ7 4 (ix v1) r8) fun μ9 =>
    chv v1 16 <|
    bnd2 (M_kept (μ9.1 5 (ix v1)) μ9) fun r11 μ10 =>
    chv v1 16 <|
    lt (sti μ10 5 (ix v1) r11) fun μ12 =>
    chv v1 16 <|
    bnd2 (M_kept (μ12.1 6 (ix v1)) μ12) fun r14 μ13 =>
    chv v1 16 <|
    lt (sti μ13 6 (ix v1) r14) fun μ15 =>
    chv v1 16 <|
    bnd2 (M_kept (μ15.1 7 (ix v1)) μ15) fun r17 μ16 =>
    chv v1 16 <|
    lt (sti μ16 7 (ix v1) r17) fun μ18 =>
    some (.inl ((v1 + (nI 1)), μ18))
def M_keepsPeople_l104 (v1 : Int32) (μ : Mm) : Option ((Int32 × Mm) ⊕ Mm) :=
  if (nI 144) ≤ v1 then
    some (.inr μ)
  else
    chv v1 144 <|
    bnd2 (M_kept (μ.1 8 (ix v1)) μ) fun r20 μ19 =>
    chv v1 144 <|
    lt (sti μ19 8 (ix v1) r20) fun μ21 =>
    some (.inl ((v1 + (nI 1)), μ21))
def M_keepsPeople (μ : Mm) : Option Mm :=
  bnd2 (M_kept (μ.1 0 6) μ) fun r2 μ1 =>
  lt (sti μ1 0 6 r2) fun μ3 =>
  bnd2 (M_kept (μ3.1 0 10) μ3) fun r5 μ4 =>
  lt (sti μ4 0 10 r5) fun μ6 =>
  bni (iter 1000000 (fun s => M_keepsPeople_l26 s.1 s.2) ((nI 0), μ6)) fun x26 =>
  bni (iter 1000000 (fun s => M_keepsPeople_l104 s.1 s.2) ((nI 0), x26)) fun x104 =>
  some x104
def M_keepsNumbers_l62 (v1 : Int32) (μ : Mm) : Option ((Int32 × Mm) ⊕ Mm) :=
  if (nI 8) ≤ v1 then
    some (.inr μ)
  else
    chv v1 8 <|
    bnd2 (M_kept (μ.1 9 (ix v1)) μ) fun r17 μ16 =>
    chv v1 8 <|
    lt (sti μ16 9 (ix v1) r17) fun μ18 =>
    some (.inl ((v1 + (nI 1)), μ18))
def M_keepsNumbers_l104 (v1 : Int32) (μ : Mm) : Option ((Int32 × Mm) ⊕ Mm) :=
  if (nI 36) ≤ v1 then
    some (.inr μ)
  else
    chv v1 72 <|
    bnd2 (M_kept (μ.1 20 (ix v1)) μ) fun r23 μ22 =>
    chv v1 72 <|
    lt (sti μ22 20 (ix v1) r23) fun μ24 =>
    some (.inl ((v1 + (nI 1)), μ24))
def M_keepsNumbers (μ : Mm) : Option Mm :=
  bnd2 (M_kept (μ.1 0 13) μ) fun r2 μ1 =>
  lt (sti μ1 0 13 r2) fun μ3 =>
  bnd2 (M_kept (μ3.1 0 14) μ3) fun r5 μ4 =>
  lt (sti μ4 0 14 r5) fun μ6 =>
  bnd2 (M_kept (μ6.1 0 15) μ6) fun r8 μ7 =>
  lt (sti μ7 0 15 r8) fun μ9 =>
  bnd2 (M_kept (μ9.1 0 16) μ9) fun r11 μ10 =>
  lt (sti μ10 0 16 r11) fun μ12 =>
  bnd2 (M_kept (μ12.1 0 17) μ12) fun r14 μ13 =>
  lt (sti μ13 0 17 r14) fun μ15 =>
  bni (iter 1000000 (fun s => M_keepsNumbers_l62 s.1 s.2) ((nI 0), μ15)) fun x62 =>
  bnd2 (M_kept (x62.1 0 43) x62) fun r20 μ19 =>
  lt (sti μ19 0 43 r20) fun μ21 =>
  bni (iter 1000000 (fun s => M_keepsNumbers_l104 s.1 s.2) ((nI 0), μ21)) fun x104 =>
  some x104
def M_image_l35 (v1 : Int32) (v2 : Int32) (μ : Mm) : Option ((Int32 × Mm) ⊕ Mm) :=
  if (nI 712) ≤ v2 then
    some (.inr μ)
  else
    chv v2 712 <|
    bnd2 (M_kept (μ.1 1 (ix v2)) μ) fun r6 μ5 =>
    chv v2 712 <|
    lt (sti μ5 1 (ix v2) r6) fun μ7 =>
    some (.inl ((v2 + (nI 1)), μ7))
def M_image_l74 (v1 : Int32) (v2 : Int32) (μ : Mm) : Option ((Int32 × Mm) ⊕ Mm) :=
  if (nI 1000) ≤ v2 then
    some (.inr μ)
  else
    chv v2 1000 <|
    bnd2 (M_kept (μ.1 10 (ix v2)) μ) fun r11 μ10 =>
    chv v2 1000 <|
    lt (sti μ10 10 (ix v2) r11) fun μ12 =>
    some (.inl ((v2 + (nI 1)), μ12))
def M_image_j18 (v1 : Int32) (μ : Mm) : Option (Int32 × Mm) :=
  chk (v1 = 0 ∨ v1 = 1) <|
  lt (sti μ 0 47 v1) fun μ2 =>
  lt (sti μ2 0 48 (nI 1)) fun μ3 =>
  lt (sti μ3 0 49 (nI 0)) fun μ4 =>
  bni (iter 1000000 (fun s => M_image_l35 v1 s.1 s.2) ((nI 0), μ4)) fun x35 =>
  bnd (M_keepsPeople x35) fun μ8 =>
  bnd (M_keepsNumbers μ8) fun μ9 =>
  bni (iter 1000000 (fun s => M_image_l74 v1 s.1 s.2) ((nI 0), μ9)) fun x74 =>
  bnd (M_keepsLaw (nI 0) x74) fun μ13 =>
  bnd (M_keepsLaw (nI 1) μ13) fun μ14 =>
  if v1 = 0 then
    lt (sti μ14 0 3 (nI 0)) fun μ15 =>
    some ((nI 1), μ15)
  else
    some ((nI 1), μ14)
def M_image (v1 : Int32) (μ : Mm) : Option (Int32 × Mm) :=
  lt (sti μ 0 0 (nI 0)) fun μ1 =>
  if v1 = 0 then
    if (μ1.1 0 48) = 0 then
      some ((nI 0), μ1)
    else
      M_image_j18 v1 μ1
  else
    M_image_j18 v1 μ1
def M_look (v1 : Int32) (μ : Mm) : Option (Int32 × Mm) :=
  lt (sti μ 0 0 (nI 0)) fun μ1 =>
  if v1 = 0 then
    some ((μ1.1 0 6), μ1)
  else
    if v1 = (nI 1) then
      chv (nI 6) 712 <|
      some ((μ1.1 1 (ix (nI 6))), μ1)
    else
      if v1 = (nI 2) then
        chv (nI 0) 712 <|
        some ((μ1.1 1 (ix (nI 0))), μ1)
      else
        if v1 = (nI 3) then
          chv (nI 471) 712 <|
          some ((μ1.1 1 (ix (nI 471))), μ1)
        else
          if v1 = (nI 4) then
            bnd (M_heldIn (-1) μ1) fun r2 =>
            some (r2, μ1)
          else
            if v1 = (nI 5) then
              chv (nI 2) 712 <|
              some ((μ1.1 1 (ix (nI 2))), μ1)
            else
              if v1 = (nI 6) then
                chv (nI 1) 712 <|
                some ((μ1.1 1 (ix (nI 1))), μ1)
              else
                if v1 = (nI 7) then
                  chv (nI 3) 712 <|
                  some ((μ1.1 1 (ix (nI 3))), μ1)
                else
                  if v1 = (nI 8) then
                    chv (nI 4) 712 <|
                    some ((μ1.1 1 (ix (nI 4))), μ1)
                  else
                    if v1 = (nI 9) then
                      chv (nI 5) 712 <|
                      some ((μ1.1 1 (ix (nI 5))), μ1)
                    else
                      if v1 = (nI 10) then
                        chv (nI 0) 2 <|
                        some ((μ1.1 13 (ix (nI 0))), μ1)
                      else
                        if v1 = (nI 11) then
                          chv (nI 1) 2 <|
                          some ((μ1.1 13 (ix (nI 1))), μ1)
                        else
                          if v1 = (nI 12) then
                            some ((μ1.1 0 43), μ1)
                          else
                            if v1 = (nI 13) then
                              some ((μ1.1 0 3), μ1)
                            else
                              if v1 = (nI 14) then
                                some ((μ1.1 0 17), μ1)
                              else
                                if v1 = (nI 20) then
                                  some (((μ1.1 0 13) + (nI 9)), μ1)
                                else
                                  if v1 = (nI 21) then
                                    some (((μ1.1 0 14) + (nI 9)), μ1)
                                  else
                                    if v1 = (nI 22) then
                                      some ((μ1.1 0 15), μ1)
                                    else
                                      if v1 = (nI 23) then
                                        some ((μ1.1 0 16), μ1)
                                      else
                                        some ((-1), μ1)
