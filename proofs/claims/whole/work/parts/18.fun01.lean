def f_X0_become (o : Nat) (r1 : Nat) (h : qN) : Option (qN) :=
  some (qup (qup (qup (qrow (qrow (qrow (qrow h (o + 1) (va_cpy (h (r1 + 1)) (h (o + 1)) 0 0 2)) (o + 2) (va_cpy ((qrow h (o + 1) (va_cpy (h (r1 + 1)) (h (o + 1)) 0 0 2)) (r1 + 2)) ((qrow h (o + 1) (va_cpy (h (r1 + 1)) (h (o + 1)) 0 0 2)) (o + 2)) 0 0 8)) (o + 3) (va_cpy ((qrow (qrow h (o + 1) (va_cpy (h (r1 + 1)) (h (o + 1)) 0 0 2)) (o + 2) (va_cpy ((qrow h (o + 1) (va_cpy (h (r1 + 1)) (h (o + 1)) 0 0 2)) (r1 + 2)) ((qrow h (o + 1) (va_cpy (h (r1 + 1)) (h (o + 1)) 0 0 2)) (o + 2)) 0 0 8)) (r1 + 3)) ((qrow (qrow h (o + 1) (va_cpy (h (r1 + 1)) (h (o + 1)) 0 0 2)) (o + 2) (va_cpy ((qrow h (o + 1) (va_cpy (h (r1 + 1)) (h (o + 1)) 0 0 2)) (r1 + 2)) ((qrow h (o + 1) (va_cpy (h (r1 + 1)) (h (o + 1)) 0 0 2)) (o + 2)) 0 0 8)) (o + 3)) 0 0 12)) (o + 4) (va_cpy ((qrow (qrow (qrow h (o + 1) (va_cpy (h (r1 + 1)) (h (o + 1)) 0 0 2)) (o + 2) (va_cpy ((qrow h (o + 1) (va_cpy (h (r1 + 1)) (h (o + 1)) 0 0 2)) (r1 + 2)) ((qrow h (o + 1) (va_cpy (h (r1 + 1)) (h (o + 1)) 0 0 2)) (o + 2)) 0 0 8)) (o + 3) (va_cpy ((qrow (qrow h (o + 1) (va_cpy (h (r1 + 1)) (h (o + 1)) 0 0 2)) (o + 2) (va_cpy ((qrow h (o + 1) (va_cpy (h (r1 + 1)) (h (o + 1)) 0 0 2)) (r1 + 2)) ((qrow h (o + 1) (va_cpy (h (r1 + 1)) (h (o + 1)) 0 0 2)) (o + 2)) 0 0 8)) (r1 + 3)) ((qrow (qrow h (o + 1) (va_cpy (h (r1 + 1)) (h (o + 1)) 0 0 2)) (o + 2) (va_cpy ((qrow h (o + 1) (va_cpy (h (r1 + 1)) (h (o + 1)) 0 0 2)) (r1 + 2)) ((qrow h (o + 1) (va_cpy (h (r1 + 1)) (h (o + 1)) 0 0 2)) (o + 2)) 0 0 8)) (o + 3)) 0 0 12)) (r1 + 4)) ((qrow (qrow (qrow h (o + 1) (va_cpy (h (r1 + 1)) (h (o + 1)) 0 0 2)) (o + 2) (va_cpy ((qrow h (o + 1) (va_cpy (h (r1 + 1)) (h (o + 1)) 0 0 2)) (r1 + 2)) ((qrow h (o + 1) (va_cpy (h (r1 + 1)) (h (o + 1)) 0 0 2)) (o + 2)) 0 0 8)) (o + 3) (va_cpy ((qrow (qrow h (o + 1) (va_cpy (h (r1 + 1)) (h (o + 1)) 0 0 2)) (o + 2) (va_cpy ((qrow h (o + 1) (va_cpy (h (r1 + 1)) (h (o + 1)) 0 0 2)) (r1 + 2)) ((qrow h (o + 1) (va_cpy (h (r1 + 1)) (h (o + 1)) 0 0 2)) (o + 2)) 0 0 8)) (r1 + 3)) ((qrow (qrow h (o + 1) (va_cpy (h (r1 + 1)) (h (o + 1)) 0 0 2)) (o + 2) (va_cpy ((qrow h (o + 1) (va_cpy (h (r1 + 1)) (h (o + 1)) 0 0 2)) (r1 + 2)) ((qrow h (o + 1) (va_cpy (h (r1 + 1)) (h (o + 1)) 0 0 2)) (o + 2)) 0 0 8)) (o + 3)) 0 0 12)) (o + 4)) 0 0 12)) o 4 ((qrow (qrow (qrow (qrow h (o + 1) (va_cpy (h (r1 + 1)) (h (o + 1)) 0 0 2)) (o + 2) (va_cpy ((qrow h (o + 1) (va_cpy (h (r1 + 1)) (h (o + 1)) 0 0 2)) (r1 + 2)) ((qrow h (o + 1) (va_cpy (h (r1 + 1)) (h (o + 1)) 0 0 2)) (o + 2)) 0 0 8)) (o + 3) (va_cpy ((qrow (qrow h (o + 1) (va_cpy (h (r1 + 1)) (h (o + 1)) 0 0 2)) (o + 2) (va_cpy ((qrow h (o + 1) (va_cpy (h (r1 + 1)) (h (o + 1)) 0 0 2)) (r1 + 2)) ((qrow h (o + 1) (va_cpy (h (r1 + 1)) (h (o + 1)) 0 0 2)) (o + 2)) 0 0 8)) (r1 + 3)) ((qrow (qrow h (o + 1) (va_cpy (h (r1 + 1)) (h (o + 1)) 0 0 2)) (o + 2) (va_cpy ((qrow h (o + 1) (va_cpy (h (r1 + 1)) (h (o + 1)) 0 0 2)) (r1 + 2)) ((qrow h (o + 1) (va_cpy (h (r1 + 1)) (h (o + 1)) 0 0 2)) (o + 2)) 0 0 8)) (o + 3)) 0 0 12)) (o + 4) (va_cpy ((qrow (qrow (qrow h (o + 1) (va_cpy (h (r1 + 1)) (h (o + 1)) 0 0 2)) (o + 2) (va_cpy ((qrow h (o + 1) (va_cpy (h (r1 + 1)) (h (o + 1)) 0 0 2)) (r1 + 2)) ((qrow h (o + 1) (va_cpy (h (r1 + 1)) (h (o + 1)) 0 0 2)) (o + 2)) 0 0 8)) (o + 3) (va_cpy ((qrow (qrow h (o + 1) (va_cpy (h (r1 + 1)) (h (o + 1)) 0 0 2)) (o + 2) (va_cpy ((qrow h (o + 1) (va_cpy (h (r1 + 1)) (h (o + 1)) 0 0 2)) (r1 + 2)) ((qrow h (o + 1) (va_cpy (h (r1 + 1)) (h (o + 1)) 0 0 2)) (o + 2)) 0 0 8)) (r1 + 3)) ((qrow (qrow h (o + 1) (va_cpy (h (r1 + 1)) (h (o + 1)) 0 0 2)) (o + 2) (va_cpy ((qrow h (o + 1) (va_cpy (h (r1 + 1)) (h (o + 1)) 0 0 2)) (r1 + 2)) ((qrow h (o + 1) (va_cpy (h (r1 + 1)) (h (o + 1)) 0 0 2)) (o + 2)) 0 0 8)) (o + 3)) 0 0 12)) (r1 + 4)) ((qrow (qrow (qrow h (o + 1) (va_cpy (h (r1 + 1)) (h (o + 1)) 0 0 2)) (o + 2) (va_cpy ((qrow h (o + 1) (va_cpy (h (r1 + 1)) (h (o + 1)) 0 0 2)) (r1 + 2)) ((qrow h (o + 1) (va_cpy (h (r1 + 1)) (h (o + 1)) 0 0 2)) (o + 2)) 0 0 8)) (o + 3) (va_cpy ((qrow (qrow h (o + 1) (va_cpy (h (r1 + 1)) (h (o + 1)) 0 0 2)) (o + 2) (va_cpy ((qrow h (o + 1) (va_cpy (h (r1 + 1)) (h (o + 1)) 0 0 2)) (r1 + 2)) ((qrow h (o + 1) (va_cpy (h (r1 + 1)) (h (o + 1)) 0 0 2)) (o + 2)) 0 0 8)) (r1 + 3)) ((qrow (qrow h (o + 1) (va_cpy (h (r1 + 1)) (h (o + 1)) 0 0 2)) (o + 2) (va_cpy ((qrow h (o + 1) (va_cpy (h (r1 + 1)) (h (o + 1)) 0 0 2)) (r1 + 2)) ((qrow h (o + 1) (va_cpy (h (r1 + 1)) (h (o + 1)) 0 0 2)) (o + 2)) 0 0 8)) (o + 3)) 0 0 12)) (o + 4)) 0 0 12)) r1 4)) o 5 ((qup (qrow (qrow (qrow (qrow h (o + 1) (va_cpy (h (r1 + 1)) (h (o + 1)) 0 0 2)) (o + 2) (va_cpy ((qrow h (o + 1) (va_cpy (h (r1 + 1)) (h (o + 1)) 0 0 2)) (r1 + 2)) ((qrow h (o + 1) (va_cpy (h (r1 + 1)) (h (o + 1)) 0 0 2)) (o + 2)) 0 0 8)) (o + 3) (va_cpy ((qrow (qrow h (o + 1) (va_cpy (h (r1 + 1)) (h (o + 1)) 0 0 2)) (o + 2) (va_cpy ((qrow h (o + 1) (va_cpy (h (r1 + 1)) (h (o + 1)) 0 0 2)) (r1 + 2)) ((qrow h (o + 1) (va_cpy (h (r1 + 1)) (h (o + 1)) 0 0 2)) (o + 2)) 0 0 8)) (r1 + 3)) ((qrow (qrow h (o + 1) (va_cpy (h (r1 + 1)) (h (o + 1)) 0 0 2)) (o + 2) (va_cpy ((qrow h (o + 1) (va_cpy (h (r1 + 1)) (h (o + 1)) 0 0 2)) (r1 + 2)) ((qrow h (o + 1) (va_cpy (h (r1 + 1)) (h (o + 1)) 0 0 2)) (o + 2)) 0 0 8)) (o + 3)) 0 0 12)) (o + 4) (va_cpy ((qrow (qrow (qrow h (o + 1) (va_cpy (h (r1 + 1)) (h (o + 1)) 0 0 2)) (o + 2) (va_cpy ((qrow h (o + 1) (va_cpy (h (r1 + 1)) (h (o + 1)) 0 0 2)) (r1 + 2)) ((qrow h (o + 1) (va_cpy (h (r1 + 1)) (h (o + 1)) 0 0 2)) (o + 2)) 0 0 8)) (o + 3) (va_cpy ((qrow (qrow h (o + 1) (va_cpy (h (r1 + 1)) (h (o + 1)) 0 0 2)) (o + 2) (va_cpy ((qrow h (o + 1) (va_cpy (h (r1 + 1)) (h (o + 1)) 0 0 2)) (r1 + 2)) ((qrow h (o + 1) (va_cpy (h (r1 + 1)) (h (o + 1)) 0 0 2)) (o + 2)) 0 0 8)) (r1 + 3)) ((qrow (qrow h (o + 1) (va_cpy (h (r1 + 1)) (h (o + 1)) 0 0 2)) (o + 2) (va_cpy ((qrow h (o + 1) (va_cpy (h (r1 + 1)) (h (o + 1)) 0 0 2)) (r1 + 2)) ((qrow h (o + 1) (va_cpy (h (r1 + 1)) (h (o + 1)) 0 0 2)) (o + 2)) 0 0 8)) (o + 3)) 0 0 12)) (r1 + 4)) ((qrow (qrow (qrow h (o + 1) (va_cpy (h (r1 + 1)) (h (o + 1)) 0 0 2)) (o + 2) (va_cpy ((qrow h (o + 1) (va_cpy (h (r1 + 1)) (h (o + 1)) 0 0 2)) (r1 + 2)) ((qrow h (o + 1) (va_cpy (h (r1 + 1)) (h (o + 1)) 0 0 2)) (o + 2)) 0 0 8)) (o + 3) (va_cpy ((qrow (qrow h (o + 1) (va_cpy (h (r1 + 1)) (h (o + 1)) 0 0 2)) (o + 2) (va_cpy ((qrow h (o + 1) (va_cpy (h (r1 + 1)) (h (o + 1)) 0 0 2)) (r1 + 2)) ((qrow h (o + 1) (va_cpy (h (r1 + 1)) (h (o + 1)) 0 0 2)) (o + 2)) 0 0 8)) (r1 + 3)) ((qrow (qrow h (o + 1) (va_cpy (h (r1 + 1)) (h (o + 1)) 0 0 2)) (o + 2) (va_cpy ((qrow h (o + 1) (va_cpy (h (r1 + 1)) (h (o + 1)) 0 0 2)) (r1 + 2)) ((qrow h (o + 1) (va_cpy (h (r1 + 1)) (h (o + 1)) 0 0 2)) (o + 2)) 0 0 8)) (o + 3)) 0 0 12)) (o + 4)) 0 0 12)) o 4 ((qrow (qrow (qrow (qrow h (o + 1) (va_cpy (h (r1 + 1)) (h (o + 1)) 0 0 2)) (o + 2) (va_cpy ((qrow h (o + 1) (va_cpy (h (r1 + 1)) (h (o + 1)) 0 0 2)) (r1 + 2)) ((qrow h (o + 1) (va_cpy (h (r1 + 1)) (h (o + 1)) 0 0 2)) (o + 2)) 0 0 8)) (o + 3) (va_cpy ((qrow (qrow h (o + 1) (va_cpy (h (r1 + 1)) (h (o + 1)) 0 0 2)) (o + 2) (va_cpy ((qrow h (o + 1) (va_cpy (h (r1 + 1)) (h (o + 1)) 0 0 2)) (r1 + 2)) ((qrow h (o + 1) (va_cpy (h (r1 + 1)) (h (o + 1)) 0 0 2)) (o + 2)) 0 0 8)) (r1 + 3)) ((qrow (qrow h (o + 1) (va_cpy (h (r1 + 1)) (h (o + 1)) 0 0 2)) (o + 2) (va_cpy ((qrow h (o + 1) (va_cpy (h (r1 + 1)) (h (o + 1)) 0 0 2)) (r1 + 2)) ((qrow h (o + 1) (va_cpy (h (r1 + 1)) (h (o + 1)) 0 0 2)) (o + 2)) 0 0 8)) (o + 3)) 0 0 12)) (o + 4) (va_cpy ((qrow (qrow (qrow h (o + 1) (va_cpy (h (r1 + 1)) (h (o + 1)) 0 0 2)) (o + 2) (va_cpy ((qrow h (o + 1) (va_cpy (h (r1 + 1)) (h (o + 1)) 0 0 2)) (r1 + 2)) ((qrow h (o + 1) (va_cpy (h (r1 + 1)) (h (o + 1)) 0 0 2)) (o + 2)) 0 0 8)) (o + 3) (va_cpy ((qrow (qrow h (o + 1) (va_cpy (h (r1 + 1)) (h (o + 1)) 0 0 2)) (o + 2) (va_cpy ((qrow h (o + 1) (va_cpy (h (r1 + 1)) (h (o + 1)) 0 0 2)) (r1 + 2)) ((qrow h (o + 1) (va_cpy (h (r1 + 1)) (h (o + 1)) 0 0 2)) (o + 2)) 0 0 8)) (r1 + 3)) ((qrow (qrow h (o + 1) (va_cpy (h (r1 + 1)) (h (o + 1)) 0 0 2)) (o + 2) (va_cpy ((qrow h (o + 1) (va_cpy (h (r1 + 1)) (h (o + 1)) 0 0 2)) (r1 + 2)) ((qrow h (o + 1) (va_cpy (h (r1 + 1)) (h (o + 1)) 0 0 2)) (o + 2)) 0 0 8)) (o + 3)) 0 0 12)) (r1 + 4)) ((qrow (qrow (qrow h (o + 1) (va_cpy (h (r1 + 1)) (h (o + 1)) 0 0 2)) (o + 2) (va_cpy ((qrow h (o + 1) (va_cpy (h (r1 + 1)) (h (o + 1)) 0 0 2)) (r1 + 2)) ((qrow h (o + 1) (va_cpy (h (r1 + 1)) (h (o + 1)) 0 0 2)) (o + 2)) 0 0 8)) (o + 3) (va_cpy ((qrow (qrow h (o + 1) (va_cpy (h (r1 + 1)) (h (o + 1)) 0 0 2)) (o + 2) (va_cpy ((qrow h (o + 1) (va_cpy (h (r1 + 1)) (h (o + 1)) 0 0 2)) (r1 + 2)) ((qrow h (o + 1) (va_cpy (h (r1 + 1)) (h (o + 1)) 0 0 2)) (o + 2)) 0 0 8)) (r1 + 3)) ((qrow (qrow h (o + 1) (va_cpy (h (r1 + 1)) (h (o + 1)) 0 0 2)) (o + 2) (va_cpy ((qrow h (o + 1) (va_cpy (h (r1 + 1)) (h (o + 1)) 0 0 2)) (r1 + 2)) ((qrow h (o + 1) (va_cpy (h (r1 + 1)) (h (o + 1)) 0 0 2)) (o + 2)) 0 0 8)) (o + 3)) 0 0 12)) (o + 4)) 0 0 12)) r1 4)) r1 5)) o 6 ((qup (qup (qrow (qrow (qrow (qrow h (o + 1) (va_cpy (h (r1 + 1)) (h (o + 1)) 0 0 2)) (o + 2) (va_cpy ((qrow h (o + 1) (va_cpy (h (r1 + 1)) (h (o + 1)) 0 0 2)) (r1 + 2)) ((qrow h (o + 1) (va_cpy (h (r1 + 1)) (h (o + 1)) 0 0 2)) (o + 2)) 0 0 8)) (o + 3) (va_cpy ((qrow (qrow h (o + 1) (va_cpy (h (r1 + 1)) (h (o + 1)) 0 0 2)) (o + 2) (va_cpy ((qrow h (o + 1) (va_cpy (h (r1 + 1)) (h (o + 1)) 0 0 2)) (r1 + 2)) ((qrow h (o + 1) (va_cpy (h (r1 + 1)) (h (o + 1)) 0 0 2)) (o + 2)) 0 0 8)) (r1 + 3)) ((qrow (qrow h (o + 1) (va_cpy (h (r1 + 1)) (h (o + 1)) 0 0 2)) (o + 2) (va_cpy ((qrow h (o + 1) (va_cpy (h (r1 + 1)) (h (o + 1)) 0 0 2)) (r1 + 2)) ((qrow h (o + 1) (va_cpy (h (r1 + 1)) (h (o + 1)) 0 0 2)) (o + 2)) 0 0 8)) (o + 3)) 0 0 12)) (o + 4) (va_cpy ((qrow (qrow (qrow h (o + 1) (va_cpy (h (r1 + 1)) (h (o + 1)) 0 0 2)) (o + 2) (va_cpy ((qrow h (o + 1) (va_cpy (h (r1 + 1)) (h (o + 1)) 0 0 2)) (r1 + 2)) ((qrow h (o + 1) (va_cpy (h (r1 + 1)) (h (o + 1)) 0 0 2)) (o + 2)) 0 0 8)) (o + 3) (va_cpy ((qrow (qrow h (o + 1) (va_cpy (h (r1 + 1)) (h (o + 1)) 0 0 2)) (o + 2) (va_cpy ((qrow h (o + 1) (va_cpy (h (r1 + 1)) (h (o + 1)) 0 0 2)) (r1 + 2)) ((qrow h (o + 1) (va_cpy (h (r1 + 1)) (h (o + 1)) 0 0 2)) (o + 2)) 0 0 8)) (r1 + 3)) ((qrow (qrow h (o + 1) (va_cpy (h (r1 + 1)) (h (o + 1)) 0 0 2)) (o + 2) (va_cpy ((qrow h (o + 1) (va_cpy (h (r1 + 1)) (h (o + 1)) 0 0 2)) (r1 + 2)) ((qrow h (o + 1) (va_cpy (h (r1 + 1)) (h (o + 1)) 0 0 2)) (o + 2)) 0 0 8)) (o + 3)) 0 0 12)) (r1 + 4)) ((qrow (qrow (qrow h (o + 1) (va_cpy (h (r1 + 1)) (h (o + 1)) 0 0 2)) (o + 2) (va_cpy ((qrow h (o + 1) (va_cpy (h (r1 + 1)) (h (o + 1)) 0 0 2)) (r1 + 2)) ((qrow h (o + 1) (va_cpy (h (r1 + 1)) (h (o + 1)) 0 0 2)) (o + 2)) 0 0 8)) (o + 3) (va_cpy ((qrow (qrow h (o + 1) (va_cpy (h (r1 + 1)) (h (o + 1)) 0 0 2)) (o + 2) (va_cpy ((qrow h (o + 1) (va_cpy (h (r1 + 1)) (h (o + 1)) 0 0 2)) (r1 + 2)) ((qrow h (o + 1) (va_cpy (h (r1 + 1)) (h (o + 1)) 0 0 2)) (o + 2)) 0 0 8)) (r1 + 3)) ((qrow (qrow h (o + 1) (va_cpy (h (r1 + 1)) (h (o + 1)) 0 0 2)) (o + 2) (va_cpy ((qrow h (o + 1) (va_cpy (h (r1 + 1)) (h (o + 1)) 0 0 2)) (r1 + 2)) ((qrow h (o + 1) (va_cpy (h (r1 + 1)) (h (o + 1)) 0 0 2)) (o + 2)) 0 0 8)) (o + 3)) 0 0 12)) (o + 4)) 0 0 12)) o 4 ((qrow (qrow (qrow (qrow h (o + 1) (va_cpy (h (r1 + 1)) (h (o + 1)) 0 0 2)) (o + 2) (va_cpy ((qrow h (o + 1) (va_cpy (h (r1 + 1)) (h (o + 1)) 0 0 2)) (r1 + 2)) ((qrow h (o + 1) (va_cpy (h (r1 + 1)) (h (o + 1)) 0 0 2)) (o + 2)) 0 0 8)) (o + 3) (va_cpy ((qrow (qrow h (o + 1) (va_cpy (h (r1 + 1)) (h (o + 1)) 0 0 2)) (o + 2) (va_cpy ((qrow h (o + 1) (va_cpy (h (r1 + 1)) (h (o + 1)) 0 0 2)) (r1 + 2)) ((qrow h (o + 1) (va_cpy (h (r1 + 1)) (h (o + 1)) 0 0 2)) (o + 2)) 0 0 8)) (r1 + 3)) ((qrow (qrow h (o + 1) (va_cpy (h (r1 + 1)) (h (o + 1)) 0 0 2)) (o + 2) (va_cpy ((qrow h (o + 1) (va_cpy (h (r1 + 1)) (h (o + 1)) 0 0 2)) (r1 + 2)) ((qrow h (o + 1) (va_cpy (h (r1 + 1)) (h (o + 1)) 0 0 2)) (o + 2)) 0 0 8)) (o + 3)) 0 0 12)) (o + 4) (va_cpy ((qrow (qrow (qrow h (o + 1) (va_cpy (h (r1 + 1)) (h (o + 1)) 0 0 2)) (o + 2) (va_cpy ((qrow h (o + 1) (va_cpy (h (r1 + 1)) (h (o + 1)) 0 0 2)) (r1 + 2)) ((qrow h (o + 1) (va_cpy (h (r1 + 1)) (h (o + 1)) 0 0 2)) (o + 2)) 0 0 8)) (o + 3) (va_cpy ((qrow (qrow h (o + 1) (va_cpy (h (r1 + 1)) (h (o + 1)) 0 0 2)) (o + 2) (va_cpy ((qrow h (o + 1) (va_cpy (h (r1 + 1)) (h (o + 1)) 0 0 2)) (r1 + 2)) ((qrow h (o + 1) (va_cpy (h (r1 + 1)) (h (o + 1)) 0 0 2)) (o + 2)) 0 0 8)) (r1 + 3)) ((qrow (qrow h (o + 1) (va_cpy (h (r1 + 1)) (h (o + 1)) 0 0 2)) (o + 2) (va_cpy ((qrow h (o + 1) (va_cpy (h (r1 + 1)) (h (o + 1)) 0 0 2)) (r1 + 2)) ((qrow h (o + 1) (va_cpy (h (r1 + 1)) (h (o + 1)) 0 0 2)) (o + 2)) 0 0 8)) (o + 3)) 0 0 12)) (r1 + 4)) ((qrow (qrow (qrow h (o + 1) (va_cpy (h (r1 + 1)) (h (o + 1)) 0 0 2)) (o + 2) (va_cpy ((qrow h (o + 1) (va_cpy (h (r1 + 1)) (h (o + 1)) 0 0 2)) (r1 + 2)) ((qrow h (o + 1) (va_cpy (h (r1 + 1)) (h (o + 1)) 0 0 2)) (o + 2)) 0 0 8)) (o + 3) (va_cpy ((qrow (qrow h (o + 1) (va_cpy (h (r1 + 1)) (h (o + 1)) 0 0 2)) (o + 2) (va_cpy ((qrow h (o + 1) (va_cpy (h (r1 + 1)) (h (o + 1)) 0 0 2)) (r1 + 2)) ((qrow h (o + 1) (va_cpy (h (r1 + 1)) (h (o + 1)) 0 0 2)) (o + 2)) 0 0 8)) (r1 + 3)) ((qrow (qrow h (o + 1) (va_cpy (h (r1 + 1)) (h (o + 1)) 0 0 2)) (o + 2) (va_cpy ((qrow h (o + 1) (va_cpy (h (r1 + 1)) (h (o + 1)) 0 0 2)) (r1 + 2)) ((qrow h (o + 1) (va_cpy (h (r1 + 1)) (h (o + 1)) 0 0 2)) (o + 2)) 0 0 8)) (o + 3)) 0 0 12)) (o + 4)) 0 0 12)) r1 4)) o 5 ((qup (qrow (qrow (qrow (qrow h (o + 1) (va_cpy (h (r1 + 1)) (h (o + 1)) 0 0 2)) (o + 2) (va_cpy ((qrow h (o + 1) (va_cpy (h (r1 + 1)) (h (o + 1)) 0 0 2)) (r1 + 2)) ((qrow h (o + 1) (va_cpy (h (r1 + 1)) (h (o + 1)) 0 0 2)) (o + 2)) 0 0 8)) (o + 3) (va_cpy ((qrow (qrow h (o + 1) (va_cpy (h (r1 + 1)) (h (o + 1)) 0 0 2)) (o + 2) (va_cpy ((qrow h (o + 1) (va_cpy (h (r1 + 1)) (h (o + 1)) 0 0 2)) (r1 + 2)) ((qrow h (o + 1) (va_cpy (h (r1 + 1)) (h (o + 1)) 0 0 2)) (o + 2)) 0 0 8)) (r1 + 3)) ((qrow (qrow h (o + 1) (va_cpy (h (r1 + 1)) (h (o + 1)) 0 0 2)) (o + 2) (va_cpy ((qrow h (o + 1) (va_cpy (h (r1 + 1)) (h (o + 1)) 0 0 2)) (r1 + 2)) ((qrow h (o + 1) (va_cpy (h (r1 + 1)) (h (o + 1)) 0 0 2)) (o + 2)) 0 0 8)) (o + 3)) 0 0 12)) (o + 4) (va_cpy ((qrow (qrow (qrow h (o + 1) (va_cpy (h (r1 + 1)) (h (o + 1)) 0 0 2)) (o + 2) (va_cpy ((qrow h (o + 1) (va_cpy (h (r1 + 1)) (h (o + 1)) 0 0 2)) (r1 + 2)) ((qrow h (o + 1) (va_cpy (h (r1 + 1)) (h (o + 1)) 0 0 2)) (o + 2)) 0 0 8)) (o + 3) (va_cpy ((qrow (qrow h (o + 1) (va_cpy (h (r1 + 1)) (h (o + 1)) 0 0 2)) (o + 2) (va_cpy ((qrow h (o + 1) (va_cpy (h (r1 + 1)) (h (o + 1)) 0 0 2)) (r1 + 2)) ((qrow h (o + 1) (va_cpy (h (r1 + 1)) (h (o + 1)) 0 0 2)) (o + 2)) 0 0 8)) (r1 + 3)) ((qrow (qrow h (o + 1) (va_cpy (h (r1 + 1)) (h (o + 1)) 0 0 2)) (o + 2) (va_cpy ((qrow h (o + 1) (va_cpy (h (r1 + 1)) (h (o + 1)) 0 0 2)) (r1 + 2)) ((qrow h (o + 1) (va_cpy (h (r1 + 1)) (h (o + 1)) 0 0 2)) (o + 2)) 0 0 8)) (o + 3)) 0 0 12)) (r1 + 4)) ((qrow (qrow (qrow h (o + 1) (va_cpy (h (r1 + 1)) (h (o + 1)) 0 0 2)) (o + 2) (va_cpy ((qrow h (o + 1) (va_cpy (h (r1 + 1)) (h (o + 1)) 0 0 2)) (r1 + 2)) ((qrow h (o + 1) (va_cpy (h (r1 + 1)) (h (o + 1)) 0 0 2)) (o + 2)) 0 0 8)) (o + 3) (va_cpy ((qrow (qrow h (o + 1) (va_cpy (h (r1 + 1)) (h (o + 1)) 0 0 2)) (o + 2) (va_cpy ((qrow h (o + 1) (va_cpy (h (r1 + 1)) (h (o + 1)) 0 0 2)) (r1 + 2)) ((qrow h (o + 1) (va_cpy (h (r1 + 1)) (h (o + 1)) 0 0 2)) (o + 2)) 0 0 8)) (r1 + 3)) ((qrow (qrow h (o + 1) (va_cpy (h (r1 + 1)) (h (o + 1)) 0 0 2)) (o + 2) (va_cpy ((qrow h (o + 1) (va_cpy (h (r1 + 1)) (h (o + 1)) 0 0 2)) (r1 + 2)) ((qrow h (o + 1) (va_cpy (h (r1 + 1)) (h (o + 1)) 0 0 2)) (o + 2)) 0 0 8)) (o + 3)) 0 0 12)) (o + 4)) 0 0 12)) o 4 ((qrow (qrow (qrow (qrow h (o + 1) (va_cpy (h (r1 + 1)) (h (o + 1)) 0 0 2)) (o + 2) (va_cpy ((qrow h (o + 1) (va_cpy (h (r1 + 1)) (h (o + 1)) 0 0 2)) (r1 + 2)) ((qrow h (o + 1) (va_cpy (h (r1 + 1)) (h (o + 1)) 0 0 2)) (o + 2)) 0 0 8)) (o + 3) (va_cpy ((qrow (qrow h (o + 1) (va_cpy (h (r1 + 1)) (h (o + 1)) 0 0 2)) (o + 2) (va_cpy ((qrow h (o + 1) (va_cpy (h (r1 + 1)) (h (o + 1)) 0 0 2)) (r1 + 2)) ((qrow h (o + 1) (va_cpy (h (r1 + 1)) (h (o + 1)) 0 0 2)) (o + 2)) 0 0 8)) (r1 + 3)) ((qrow (qrow h (o + 1) (va_cpy (h (r1 + 1)) (h (o + 1)) 0 0 2)) (o + 2) (va_cpy ((qrow h (o + 1) (va_cpy (h (r1 + 1)) (h (o + 1)) 0 0 2)) (r1 + 2)) ((qrow h (o + 1) (va_cpy (h (r1 + 1)) (h (o + 1)) 0 0 2)) (o + 2)) 0 0 8)) (o + 3)) 0 0 12)) (o + 4) (va_cpy ((qrow (qrow (qrow h (o + 1) (va_cpy (h (r1 + 1)) (h (o + 1)) 0 0 2)) (o + 2) (va_cpy ((qrow h (o + 1) (va_cpy (h (r1 + 1)) (h (o + 1)) 0 0 2)) (r1 + 2)) ((qrow h (o + 1) (va_cpy (h (r1 + 1)) (h (o + 1)) 0 0 2)) (o + 2)) 0 0 8)) (o + 3) (va_cpy ((qrow (qrow h (o + 1) (va_cpy (h (r1 + 1)) (h (o + 1)) 0 0 2)) (o + 2) (va_cpy ((qrow h (o + 1) (va_cpy (h (r1 + 1)) (h (o + 1)) 0 0 2)) (r1 + 2)) ((qrow h (o + 1) (va_cpy (h (r1 + 1)) (h (o + 1)) 0 0 2)) (o + 2)) 0 0 8)) (r1 + 3)) ((qrow (qrow h (o + 1) (va_cpy (h (r1 + 1)) (h (o + 1)) 0 0 2)) (o + 2) (va_cpy ((qrow h (o + 1) (va_cpy (h (r1 + 1)) (h (o + 1)) 0 0 2)) (r1 + 2)) ((qrow h (o + 1) (va_cpy (h (r1 + 1)) (h (o + 1)) 0 0 2)) (o + 2)) 0 0 8)) (o + 3)) 0 0 12)) (r1 + 4)) ((qrow (qrow (qrow h (o + 1) (va_cpy (h (r1 + 1)) (h (o + 1)) 0 0 2)) (o + 2) (va_cpy ((qrow h (o + 1) (va_cpy (h (r1 + 1)) (h (o + 1)) 0 0 2)) (r1 + 2)) ((qrow h (o + 1) (va_cpy (h (r1 + 1)) (h (o + 1)) 0 0 2)) (o + 2)) 0 0 8)) (o + 3) (va_cpy ((qrow (qrow h (o + 1) (va_cpy (h (r1 + 1)) (h (o + 1)) 0 0 2)) (o + 2) (va_cpy ((qrow h (o + 1) (va_cpy (h (r1 + 1)) (h (o + 1)) 0 0 2)) (r1 + 2)) ((qrow h (o + 1) (va_cpy (h (r1 + 1)) (h (o + 1)) 0 0 2)) (o + 2)) 0 0 8)) (r1 + 3)) ((qrow (qrow h (o + 1) (va_cpy (h (r1 + 1)) (h (o + 1)) 0 0 2)) (o + 2) (va_cpy ((qrow h (o + 1) (va_cpy (h (r1 + 1)) (h (o + 1)) 0 0 2)) (r1 + 2)) ((qrow h (o + 1) (va_cpy (h (r1 + 1)) (h (o + 1)) 0 0 2)) (o + 2)) 0 0 8)) (o + 3)) 0 0 12)) (o + 4)) 0 0 12)) r1 4)) r1 5)) r1 6))
set_option maxRecDepth 100000 in
theorem t_X0_become {d : Nat} (hd : 1 ≤ d) (o : Nat) (r1 : Nat) (ho : isC o) (hr1 : isC r1) (h : qN) {h1 : qN} (hf : f_X0_become o r1 h = some h1) : EE d 1 [.ref o, .ref r1] h none h1 := by
  obtain ⟨d, rfl⟩ : ∃ d0, d = d0 + 1 := ⟨d - 1, by omega⟩
  unfold f_X0_become at hf
  refine E_intro qm_1 qc_1 (Nat.le_of_ble_eq_true rfl) rfl rfl ?_
  show RR d cd_X0_become (0, 0) 0 [.ref o, .ref r1] [] h none h1
  refine R_ldA rfl rfl ?_
  refine R_get rfl hr1.1 rfl rfl ?_
  refine R_I rfl ?_
  refine R_ldA rfl rfl ?_
  refine R_get rfl ho.1 rfl rfl ?_
  refine R_I rfl ?_
  refine R_ldA rfl rfl ?_
  refine R_get rfl ho.1 rfl rfl ?_
  refine R_len (z := (2 : Int32)) rfl ho.2.1 rfl ?_
  refine R_copyN (s' := 0) (d' := 0) (z' := 2) rfl hr1.2.1 ho.2.1 rfl rfl rfl (by decide) (by decide) ?_
  refine R_ldA rfl rfl ?_
  refine R_get rfl hr1.1 rfl rfl ?_
  refine R_I rfl ?_
  refine R_ldA rfl rfl ?_
  refine R_get rfl ho.1 rfl rfl ?_
  refine R_I rfl ?_
  refine R_ldA rfl rfl ?_
  refine R_get rfl ho.1 rfl rfl ?_
  refine R_len (z := (8 : Int32)) rfl ho.2.2.1 rfl ?_
  refine R_copyN (s' := 0) (d' := 0) (z' := 8) rfl hr1.2.2.1 ho.2.2.1 rfl rfl rfl (by decide) (by decide) ?_
  refine R_ldA rfl rfl ?_
  refine R_get rfl hr1.1 rfl rfl ?_
  refine R_I rfl ?_
  refine R_ldA rfl rfl ?_
  refine R_get rfl ho.1 rfl rfl ?_
  refine R_I rfl ?_
  refine R_ldA rfl rfl ?_
  refine R_get rfl ho.1 rfl rfl ?_
  refine R_len (z := (12 : Int32)) rfl ho.2.2.2.1 rfl ?_
  refine R_copyN (s' := 0) (d' := 0) (z' := 12) rfl hr1.2.2.2.1 ho.2.2.2.1 rfl rfl rfl (by decide) (by decide) ?_
  refine R_ldA rfl rfl ?_
  refine R_get rfl hr1.1 rfl rfl ?_
  refine R_I rfl ?_
  refine R_ldA rfl rfl ?_
  refine R_get rfl ho.1 rfl rfl ?_
  refine R_I rfl ?_
  refine R_ldA rfl rfl ?_
  refine R_get rfl ho.1 rfl rfl ?_
  refine R_len (z := (12 : Int32)) rfl ho.2.2.2.2 rfl ?_
  refine R_copyN (s' := 0) (d' := 0) (z' := 12) rfl hr1.2.2.2.2 ho.2.2.2.2 rfl rfl rfl (by decide) (by decide) ?_
  refine R_ldA rfl rfl ?_
  refine R_ldA rfl rfl ?_
  refine R_get rfl hr1.1 rfl rfl ?_
  refine R_putI rfl ho.1 rfl ?_
  refine R_ldA rfl rfl ?_
  refine R_ldA rfl rfl ?_
  refine R_get rfl hr1.1 rfl rfl ?_
  refine R_putI rfl ho.1 rfl ?_
  refine R_ldA rfl rfl ?_
  refine R_ldA rfl rfl ?_
  refine R_get rfl hr1.1 rfl rfl ?_
  refine R_putI rfl ho.1 rfl ?_
  obtain rfl := Option.some.inj hf
  exact R_retV rfl
def f_X0_isOver (o : Nat) (a1 : Int32) (h : qN) : Option (Int32 × qN) :=
  if (((h o 6) >>> (a1 &&& 31)) &&& (1 : Int32)) = (1 : Int32) then
    some ((1 : Int32), h)
  else
    some ((0 : Int32), h)
set_option maxRecDepth 100000 in
theorem t_X0_isOver {d : Nat} (hd : 1 ≤ d) (o : Nat) (a1 : Int32) (ho : isC o) (h : qN) {v0 : Int32} {h1 : qN} (hf : f_X0_isOver o a1 h = some (v0, h1)) : EE d 2 [.ref o, .int a1] h (some (.int v0)) h1 := by
  obtain ⟨d, rfl⟩ : ∃ d0, d = d0 + 1 := ⟨d - 1, by omega⟩
  unfold f_X0_isOver at hf
  refine E_intro qm_2 qc_2 (Nat.le_of_ble_eq_true rfl) rfl rfl ?_
  show RR d cd_X0_isOver (0, 0) 0 [.ref o, .int a1] [] h (some (.int v0)) h1
  refine R_ldA rfl rfl ?_
  refine R_get rfl ho.1 rfl rfl ?_
  refine R_ldI rfl rfl ?_
  refine R_bin rfl ?_
  refine R_I rfl ?_
  refine R_bin rfl ?_
  refine R_I rfl ?_
  rcases qite hf with ⟨c1, hf⟩ | ⟨c1, hf⟩
  · refine R_CmNe_f rfl c1 ?_
    refine R_I rfl ?_
    refine R_goto rfl ?_
    obtain ⟨rfl, rfl⟩ := qinj2 hf
    exact R_retZ rfl (by decide)
  · refine R_CmNe_t rfl c1 ?_
    refine R_I rfl ?_
    obtain ⟨rfl, rfl⟩ := qinj2 hf
    exact R_retZ rfl (by decide)
def f_X0_standing (o : Nat) (a1 : Int32) (h : qN) : Option (Int32 × qN) :=
  if a1 < (10 : Int32) then
    if a1 < 0 ∨ 8 ≤ a1.toNatClampNeg then none else
    some ((h (o + 2) a1.toNatClampNeg), h)
  else
    some ((a1 - (10 : Int32)), h)
set_option maxRecDepth 100000 in
theorem t_X0_standing {d : Nat} (hd : 1 ≤ d) (o : Nat) (a1 : Int32) (ho : isC o) (h : qN) {v0 : Int32} {h1 : qN} (hf : f_X0_standing o a1 h = some (v0, h1)) : EE d 3 [.ref o, .int a1] h (some (.int v0)) h1 := by
  obtain ⟨d, rfl⟩ : ∃ d0, d = d0 + 1 := ⟨d - 1, by omega⟩
  unfold f_X0_standing at hf
  refine E_intro qm_3 qc_3 (Nat.le_of_ble_eq_true rfl) rfl rfl ?_
  show RR d cd_X0_standing (0, 0) 0 [.ref o, .int a1] [] h (some (.int v0)) h1
  refine R_ldI rfl rfl ?_
  refine R_I rfl ?_
  rcases qite hf with ⟨c2, hf⟩ | ⟨c2, hf⟩
  · refine R_CmLt_t rfl c2 ?_
    refine R_ldA rfl rfl ?_
    refine R_get rfl ho.1 rfl rfl ?_
    refine R_ldI rfl rfl ?_
    obtain ⟨c3, hf⟩ := qchk hf
    refine R_ald rfl ho.2.2.1 c3 ?_
    obtain ⟨rfl, rfl⟩ := qinj2 hf
    exact R_retI rfl
  · refine R_CmLt_f rfl c2 ?_
    refine R_ldI rfl rfl ?_
    refine R_I rfl ?_
    refine R_bin rfl ?_
    refine R_goto rfl ?_
    obtain ⟨rfl, rfl⟩ := qinj2 hf
    exact R_retI rfl
def f_X0_settle_L4 (N : Nat) (r0 : Nat) : Nat → Int32 → Int32 → qN → Option (Int32 × qN)
  | 0, _, _, _ => none
  | n + 1, l1, l2, h =>
    if (h r0 5) ≤ l2 then
      some (l1, h)
    else
      if l2 < 0 ∨ 12 ≤ l2.toNatClampNeg then none else
      qbind (f_X0_standing r0 (h (r0 + 3) l2.toNatClampNeg) h) fun (x7, h6) =>
      if l2 < 0 ∨ 12 ≤ l2.toNatClampNeg then none else
      qbind (f_X0_standing r0 (h6 (r0 + 4) l2.toNatClampNeg) h6) fun (x11, h10) =>
      qbind (
          if (if x7 = (6 : Int32) then (if (h10 (r0 + 1) 1) = (1 : Int32) then (1 : Int32) else (0 : Int32)) else (if x11 = (6 : Int32) then (if (h10 (r0 + 1) 1) = (1 : Int32) then (1 : Int32) else (0 : Int32)) else (if x7 = x11 then (1 : Int32) else (0 : Int32)))) = 0 then
            some (l1, h10)
          else
            qbind (f_X0_isOver r0 l2 h10) fun (x20, h19) =>
            if x20 = 0 then
              some ((l1 + (1 : Int32)), (qup h19 r0 6 ((h19 r0 6) ||| ((1 : Int32) <<< (l2 &&& 31)))))
            else
              some (l1, h19) : Option (Int32 × qN)) fun (x23, h24) =>
      f_X0_settle_L4 N r0 n x23 (l2 + (1 : Int32)) h24
set_option maxRecDepth 100000 in
theorem t_X0_settle_L4 {d N : Nat} (hd : 1 ≤ d) : ∀ (n : Nat) (r0 : Nat) (hr0 : isC r0) (l1 : Int32) (l2 : Int32) (h : qN) (y1 : Int32) (h2 : qN), f_X0_settle_L4 N r0 n l1 l2 h = some (y1, h2) → ∀ (v : Option Value) (h1 : qN), RR d cd_X0_settle (0, 0) 113 [qU, .int y1, qU, qU, qU, qU] [] h2 v h1 → RR d cd_X0_settle (0, 0) 4 [.ref r0, .int l1, .int l2, qU, qU, qU] [] h v h1 := by
  intro n
  induction n with
  | zero =>
    intro r0 hr0 l1 l2 h y1 h2 hf v h1 hE
    exact absurd hf (by simp [f_X0_settle_L4])
  | succ n ih =>
    intro r0 hr0 l1 l2 h y1 h2 hf v h1 hE
    unfold f_X0_settle_L4 at hf
    refine R_ldI rfl rfl ?_
    refine R_ldA rfl rfl ?_
    refine R_get rfl hr0.1 rfl rfl ?_
    rcases qite hf with ⟨c4, hf⟩ | ⟨c4, hf⟩
    · refine R_CmGe_t rfl c4 ?_
      refine R_drop [false, true, false, true, true, true] (ls' := [qU, .int l1, qU, qU, qU, qU]) rfl ?_
      obtain ⟨rfl, rfl⟩ := qinj2 hf
      exact hE
    · refine R_CmGe_f rfl c4 ?_
      refine R_ldA rfl rfl ?_
      refine R_ldA rfl rfl ?_
      refine R_get rfl hr0.1 rfl rfl ?_
      refine R_ldI rfl rfl ?_
      obtain ⟨c5, hf⟩ := qchk hf
      refine R_ald rfl hr0.2.2.2.1 c5 ?_
      obtain ⟨⟨x7, h6⟩, e8, hf⟩ := qbind_some hf
      dsimp only at hf
      refine R_callVi (as := [.ref r0, .int (h (r0 + 3) l2.toNatClampNeg)]) (rest := []) rfl rfl hr0.1 rfl rfl rfl rfl (t_X0_standing (by omega) r0 (h (r0 + 3) l2.toNatClampNeg) hr0 h e8) ?_
      refine R_stI (ls' := [.ref r0, .int l1, .int l2, .int x7, qU, qU]) rfl rfl rfl rfl ?_
      refine R_ldA rfl rfl ?_
      refine R_ldA rfl rfl ?_
      refine R_get rfl hr0.1 rfl rfl ?_
      refine R_ldI rfl rfl ?_
      obtain ⟨c9, hf⟩ := qchk hf
      refine R_ald rfl hr0.2.2.2.2 c9 ?_
      obtain ⟨⟨x11, h10⟩, e12, hf⟩ := qbind_some hf
      dsimp only at hf
      refine R_callVi (as := [.ref r0, .int (h6 (r0 + 4) l2.toNatClampNeg)]) (rest := []) rfl rfl hr0.1 rfl rfl rfl rfl (t_X0_standing (by omega) r0 (h6 (r0 + 4) l2.toNatClampNeg) hr0 h6 e12) ?_
      refine R_stI (ls' := [.ref r0, .int l1, .int l2, .int x7, .int x11, qU]) rfl rfl rfl rfl ?_
      refine R_ldI rfl rfl ?_
      refine R_I rfl ?_
      have key : RR d cd_X0_settle (0, 0) 77 [.ref r0, .int l1, .int l2, qU, qU, qU] [.int (if x7 = (6 : Int32) then (if (h10 (r0 + 1) 1) = (1 : Int32) then (1 : Int32) else (0 : Int32)) else (if x11 = (6 : Int32) then (if (h10 (r0 + 1) 1) = (1 : Int32) then (1 : Int32) else (0 : Int32)) else (if x7 = x11 then (1 : Int32) else (0 : Int32))))] h10 v h1 := by
        refine R_stI (ls' := [.ref r0, .int l1, .int l2, qU, qU, .int (if x7 = (6 : Int32) then (if (h10 (r0 + 1) 1) = (1 : Int32) then (1 : Int32) else (0 : Int32)) else (if x11 = (6 : Int32) then (if (h10 (r0 + 1) 1) = (1 : Int32) then (1 : Int32) else (0 : Int32)) else (if x7 = x11 then (1 : Int32) else (0 : Int32))))]) rfl rfl rfl rfl ?_
        refine R_ldI rfl rfl ?_
        obtain ⟨⟨x23, h24⟩, e25, hf⟩ := qbind_some hf
        dsimp only at hf
        have key : RR d cd_X0_settle (0, 0) 107 [.ref r0, .int x23, .int l2, qU, qU, qU] [] h24 v h1 := by
          clear e25
          refine R_inc (ls' := [.ref r0, .int x23, .int (l2 + (1 : Int32)), qU, qU, qU]) rfl rfl rfl rfl ?_
          refine R_goto rfl ?_
          exact ih r0 hr0 x23 (l2 + (1 : Int32)) h24 _ _ hf _ _ hE
        clear hf
        have hf := e25
        clear e25
        rcases qite hf with ⟨c18, hf⟩ | ⟨c18, hf⟩
        · refine R_IfEq_t rfl c18 ?_
          refine R_drop [true, true, true, true, true, false] (ls' := [.ref r0, .int l1, .int l2, qU, qU, qU]) rfl ?_
          obtain ⟨rfl, rfl⟩ := qinj2 hf
          exact key
        · refine R_IfEq_f rfl c18 ?_
          refine R_ldA rfl rfl ?_
          refine R_ldI rfl rfl ?_
          obtain ⟨⟨x20, h19⟩, e21, hf⟩ := qbind_some hf
          dsimp only at hf
          refine R_callVi (as := [.ref r0, .int l2]) (rest := []) rfl rfl hr0.1 rfl rfl rfl rfl (t_X0_isOver (by omega) r0 l2 hr0 h10 e21) ?_
          rcases qite hf with ⟨c22, hf⟩ | ⟨c22, hf⟩
          · refine R_IfNe_f rfl c22 ?_
            refine R_ldA rfl rfl ?_
            refine R_dup rfl rfl ?_
            refine R_get rfl hr0.1 rfl rfl ?_
            refine R_I rfl ?_
            refine R_ldI rfl rfl ?_
            refine R_bin rfl ?_
            refine R_bin rfl ?_
            refine R_putI rfl hr0.1 rfl ?_
            refine R_inc (ls' := [.ref r0, .int (l1 + (1 : Int32)), .int l2, qU, qU, .int (if x7 = (6 : Int32) then (if (h10 (r0 + 1) 1) = (1 : Int32) then (1 : Int32) else (0 : Int32)) else (if x11 = (6 : Int32) then (if (h10 (r0 + 1) 1) = (1 : Int32) then (1 : Int32) else (0 : Int32)) else (if x7 = x11 then (1 : Int32) else (0 : Int32))))]) rfl rfl rfl rfl ?_
            refine R_drop [true, true, true, true, true, false] (ls' := [.ref r0, .int (l1 + (1 : Int32)), .int l2, qU, qU, qU]) rfl ?_
            obtain ⟨rfl, rfl⟩ := qinj2 hf
            exact key
          · refine R_IfNe_t rfl c22 ?_
            refine R_drop [true, true, true, true, true, false] (ls' := [.ref r0, .int l1, .int l2, qU, qU, qU]) rfl ?_
            obtain ⟨rfl, rfl⟩ := qinj2 hf
            exact key
      clear hf
      by_cases c13 : x7 = (6 : Int32)
      · rw [show (if x7 = (6 : Int32) then (if (h10 (r0 + 1) 1) = (1 : Int32) then (1 : Int32) else (0 : Int32)) else (if x11 = (6 : Int32) then (if (h10 (r0 + 1) 1) = (1 : Int32) then (1 : Int32) else (0 : Int32)) else (if x7 = x11 then (1 : Int32) else (0 : Int32)))) = (if (h10 (r0 + 1) 1) = (1 : Int32) then (1 : Int32) else (0 : Int32)) from if_pos c13] at key
        refine R_CmEq_t rfl c13 ?_
        refine R_ldA rfl rfl ?_
        refine R_get rfl hr0.1 rfl rfl ?_
        refine R_I rfl ?_
        refine R_aldC (j := 1) rfl hr0.2.1 (by decide) ?_
        refine R_I rfl ?_
        by_cases c14 : (h10 (r0 + 1) 1) = (1 : Int32)
        · rw [show (if (h10 (r0 + 1) 1) = (1 : Int32) then (1 : Int32) else (0 : Int32)) = (1 : Int32) from if_pos c14] at key
          refine R_CmNe_f rfl c14 ?_
          refine R_I rfl ?_
          refine R_goto rfl ?_
          refine R_drop [true, true, true, false, false, true] (ls' := [.ref r0, .int l1, .int l2, qU, qU, qU]) rfl ?_
          exact key
        · rw [show (if (h10 (r0 + 1) 1) = (1 : Int32) then (1 : Int32) else (0 : Int32)) = (0 : Int32) from if_neg c14] at key
          refine R_CmNe_t rfl c14 ?_
          refine R_I rfl ?_
          refine R_goto rfl ?_
          refine R_drop [true, true, true, false, false, true] (ls' := [.ref r0, .int l1, .int l2, qU, qU, qU]) rfl ?_
          exact key
      · rw [show (if x7 = (6 : Int32) then (if (h10 (r0 + 1) 1) = (1 : Int32) then (1 : Int32) else (0 : Int32)) else (if x11 = (6 : Int32) then (if (h10 (r0 + 1) 1) = (1 : Int32) then (1 : Int32) else (0 : Int32)) else (if x7 = x11 then (1 : Int32) else (0 : Int32)))) = (if x11 = (6 : Int32) then (if (h10 (r0 + 1) 1) = (1 : Int32) then (1 : Int32) else (0 : Int32)) else (if x7 = x11 then (1 : Int32) else (0 : Int32))) from if_neg c13] at key
        refine R_CmEq_f rfl c13 ?_
        refine R_ldI rfl rfl ?_
        refine R_I rfl ?_
        by_cases c15 : x11 = (6 : Int32)
        · rw [show (if x11 = (6 : Int32) then (if (h10 (r0 + 1) 1) = (1 : Int32) then (1 : Int32) else (0 : Int32)) else (if x7 = x11 then (1 : Int32) else (0 : Int32))) = (if (h10 (r0 + 1) 1) = (1 : Int32) then (1 : Int32) else (0 : Int32)) from if_pos c15] at key
          refine R_CmNe_f rfl c15 ?_
          refine R_ldA rfl rfl ?_
          refine R_get rfl hr0.1 rfl rfl ?_
          refine R_I rfl ?_
          refine R_aldC (j := 1) rfl hr0.2.1 (by decide) ?_
          refine R_I rfl ?_
          by_cases c16 : (h10 (r0 + 1) 1) = (1 : Int32)
          · rw [show (if (h10 (r0 + 1) 1) = (1 : Int32) then (1 : Int32) else (0 : Int32)) = (1 : Int32) from if_pos c16] at key
            refine R_CmNe_f rfl c16 ?_
            refine R_I rfl ?_
            refine R_goto rfl ?_
            refine R_drop [true, true, true, false, false, true] (ls' := [.ref r0, .int l1, .int l2, qU, qU, qU]) rfl ?_
            exact key
          · rw [show (if (h10 (r0 + 1) 1) = (1 : Int32) then (1 : Int32) else (0 : Int32)) = (0 : Int32) from if_neg c16] at key
            refine R_CmNe_t rfl c16 ?_
            refine R_I rfl ?_
            refine R_goto rfl ?_
            refine R_drop [true, true, true, false, false, true] (ls' := [.ref r0, .int l1, .int l2, qU, qU, qU]) rfl ?_
            exact key
        · rw [show (if x11 = (6 : Int32) then (if (h10 (r0 + 1) 1) = (1 : Int32) then (1 : Int32) else (0 : Int32)) else (if x7 = x11 then (1 : Int32) else (0 : Int32))) = (if x7 = x11 then (1 : Int32) else (0 : Int32)) from if_neg c15] at key
          refine R_CmNe_t rfl c15 ?_
          refine R_ldI rfl rfl ?_
          refine R_ldI rfl rfl ?_
          by_cases c17 : x7 = x11
          · rw [show (if x7 = x11 then (1 : Int32) else (0 : Int32)) = (1 : Int32) from if_pos c17] at key
            refine R_CmNe_f rfl c17 ?_
            refine R_I rfl ?_
            refine R_goto rfl ?_
            refine R_drop [true, true, true, false, false, true] (ls' := [.ref r0, .int l1, .int l2, qU, qU, qU]) rfl ?_
            exact key
          · rw [show (if x7 = x11 then (1 : Int32) else (0 : Int32)) = (0 : Int32) from if_neg c17] at key
            refine R_CmNe_t rfl c17 ?_
            refine R_I rfl ?_
            refine R_drop [true, true, true, false, false, true] (ls' := [.ref r0, .int l1, .int l2, qU, qU, qU]) rfl ?_
            exact key
def f_X0_settle (N : Nat) (o : Nat) (h : qN) : Option (Int32 × qN) :=
  qbind (f_X0_settle_L4 N o N (0 : Int32) (0 : Int32) h) fun (x27, h28) =>
  some (x27, h28)
set_option maxRecDepth 100000 in
theorem t_X0_settle {d N : Nat} (hd : 2 ≤ d) (o : Nat) (ho : isC o) (h : qN) {v0 : Int32} {h1 : qN} (hf : f_X0_settle N o h = some (v0, h1)) : EE d 5 [.ref o] h (some (.int v0)) h1 := by
  obtain ⟨d, rfl⟩ : ∃ d0, d = d0 + 1 := ⟨d - 1, by omega⟩
  unfold f_X0_settle at hf
  refine E_intro qm_5 qc_5 (Nat.le_of_ble_eq_true rfl) rfl rfl ?_
  show RR d cd_X0_settle (0, 0) 0 [.ref o, qU, qU, qU, qU, qU] [] h (some (.int v0)) h1
  refine R_I rfl ?_
  refine R_stI (ls' := [.ref o, .int (0 : Int32), qU, qU, qU, qU]) rfl rfl rfl rfl ?_
  refine R_I rfl ?_
  refine R_stI (ls' := [.ref o, .int (0 : Int32), .int (0 : Int32), qU, qU, qU]) rfl rfl rfl rfl ?_
  obtain ⟨⟨x27, h28⟩, e29, hf⟩ := qbind_some hf
  dsimp only at hf
  refine t_X0_settle_L4 (N := N) (by omega) _ o ho (0 : Int32) (0 : Int32) h x27 h28 e29 _ _ ?_
  refine R_ldI rfl rfl ?_
  obtain ⟨rfl, rfl⟩ := qinj2 hf
  exact R_retI rfl
def f_X0_addSuit (N : Nat) (o : Nat) (a1 : Int32) (a2 : Int32) (h : qN) : Option (Int32 × qN) :=
  if (h o 5) < 0 ∨ 12 ≤ (h o 5).toNatClampNeg then none else
  if (h o 5) < 0 ∨ 12 ≤ (h o 5).toNatClampNeg then none else
  qbind (f_X0_settle N o (qup (qup (qup h (o + 3) (h o 5).toNatClampNeg a1) (o + 4) (h o 5).toNatClampNeg a2) o 5 (((qup (qup h (o + 3) (h o 5).toNatClampNeg a1) (o + 4) (h o 5).toNatClampNeg a2) o 5) + (1 : Int32)))) fun (x35, h34) =>
  some ((h o 5), h34)
set_option maxRecDepth 100000 in
theorem t_X0_addSuit {d N : Nat} (hd : 3 ≤ d) (o : Nat) (a1 : Int32) (a2 : Int32) (ho : isC o) (h : qN) {v0 : Int32} {h1 : qN} (hf : f_X0_addSuit N o a1 a2 h = some (v0, h1)) : EE d 4 [.ref o, .int a1, .int a2] h (some (.int v0)) h1 := by
  obtain ⟨d, rfl⟩ : ∃ d0, d = d0 + 1 := ⟨d - 1, by omega⟩
  unfold f_X0_addSuit at hf
  refine E_intro qm_4 qc_4 (Nat.le_of_ble_eq_true rfl) rfl rfl ?_
  show RR d cd_X0_addSuit (0, 0) 0 [.ref o, .int a1, .int a2, qU] [] h (some (.int v0)) h1
  refine R_ldA rfl rfl ?_
  refine R_get rfl ho.1 rfl rfl ?_
  refine R_stI (ls' := [.ref o, .int a1, .int a2, .int (h o 5)]) rfl rfl rfl rfl ?_
  refine R_ldA rfl rfl ?_
  refine R_get rfl ho.1 rfl rfl ?_
  refine R_ldI rfl rfl ?_
  refine R_ldI rfl rfl ?_
  obtain ⟨c32, hf⟩ := qchk hf
  refine R_ast rfl ho.2.2.2.1 c32 ?_
  refine R_ldA rfl rfl ?_
  refine R_get rfl ho.1 rfl rfl ?_
  refine R_ldI rfl rfl ?_
  refine R_ldI rfl rfl ?_
  obtain ⟨c33, hf⟩ := qchk hf
  refine R_ast rfl ho.2.2.2.2 c33 ?_
  refine R_ldA rfl rfl ?_
  refine R_dup rfl rfl ?_
  refine R_get rfl ho.1 rfl rfl ?_
  refine R_I rfl ?_
  refine R_bin rfl ?_
  refine R_putI rfl ho.1 rfl ?_
  refine R_ldA rfl rfl ?_
  obtain ⟨⟨x35, h34⟩, e36, hf⟩ := qbind_some hf
  dsimp only at hf
  refine R_callVi (as := [.ref o]) (rest := []) rfl rfl ho.1 rfl rfl rfl rfl (t_X0_settle (N := N) (by omega) o ho (qup (qup (qup h (o + 3) (h o 5).toNatClampNeg a1) (o + 4) (h o 5).toNatClampNeg a2) o 5 (((qup (qup h (o + 3) (h o 5).toNatClampNeg a1) (o + 4) (h o 5).toNatClampNeg a2) o 5) + (1 : Int32))) e36) ?_
  refine R_pop rfl rfl ?_
  refine R_ldI rfl rfl ?_
  obtain ⟨rfl, rfl⟩ := qinj2 hf
  exact R_retI rfl
def f_X0_changeSides (o : Nat) (a1 : Int32) (a2 : Int32) (a3 : Int32) (h : qN) : Option (qN) :=
  if a1 < 0 ∨ 12 ≤ a1.toNatClampNeg then none else
  qbind (
      if (h (o + 3) a1.toNatClampNeg) = a2 then
        if a1 < 0 ∨ 12 ≤ a1.toNatClampNeg then none else
        some (qup h (o + 3) a1.toNatClampNeg a3)
      else
        some h : Option (qN)) fun h40 =>
  if a1 < 0 ∨ 12 ≤ a1.toNatClampNeg then none else
  if (h40 (o + 4) a1.toNatClampNeg) = a2 then
    if a1 < 0 ∨ 12 ≤ a1.toNatClampNeg then none else
    some (qup h40 (o + 4) a1.toNatClampNeg a3)
  else
    some h40
set_option maxRecDepth 100000 in
theorem t_X0_changeSides {d : Nat} (hd : 1 ≤ d) (o : Nat) (a1 : Int32) (a2 : Int32) (a3 : Int32) (ho : isC o) (h : qN) {h1 : qN} (hf : f_X0_changeSides o a1 a2 a3 h = some h1) : EE d 9 [.ref o, .int a1, .int a2, .int a3] h none h1 := by
  obtain ⟨d, rfl⟩ : ∃ d0, d = d0 + 1 := ⟨d - 1, by omega⟩
  unfold f_X0_changeSides at hf
  refine E_intro qm_9 qc_9 (Nat.le_of_ble_eq_true rfl) rfl rfl ?_
  show RR d cd_X0_changeSides (0, 0) 0 [.ref o, .int a1, .int a2, .int a3] [] h none h1
  refine R_ldA rfl rfl ?_
  refine R_get rfl ho.1 rfl rfl ?_
  refine R_ldI rfl rfl ?_
  obtain ⟨c37, hf⟩ := qchk hf
  refine R_ald rfl ho.2.2.2.1 c37 ?_
  refine R_ldI rfl rfl ?_
  obtain ⟨h40, e44, hf⟩ := qbind_some hf
  have key : RR d cd_X0_changeSides (0, 0) 17 [.ref o, .int a1, .int a2, .int a3] [] h40 none h1 := by
    clear e44
    refine R_ldA rfl rfl ?_
    refine R_get rfl ho.1 rfl rfl ?_
    refine R_ldI rfl rfl ?_
    obtain ⟨c41, hf⟩ := qchk hf
    refine R_ald rfl ho.2.2.2.2 c41 ?_
    refine R_ldI rfl rfl ?_
    rcases qite hf with ⟨c42, hf⟩ | ⟨c42, hf⟩
    · refine R_CmNe_f rfl c42 ?_
      refine R_ldA rfl rfl ?_
      refine R_get rfl ho.1 rfl rfl ?_
      refine R_ldI rfl rfl ?_
      refine R_ldI rfl rfl ?_
      obtain ⟨c43, hf⟩ := qchk hf
      refine R_ast rfl ho.2.2.2.2 c43 ?_
      obtain rfl := Option.some.inj hf
      exact R_retV rfl
    · refine R_CmNe_t rfl c42 ?_
      obtain rfl := Option.some.inj hf
      exact R_retV rfl
  clear hf
  have hf := e44
  clear e44
  rcases qite hf with ⟨c38, hf⟩ | ⟨c38, hf⟩
  · refine R_CmNe_f rfl c38 ?_
    refine R_ldA rfl rfl ?_
    refine R_get rfl ho.1 rfl rfl ?_
    refine R_ldI rfl rfl ?_
    refine R_ldI rfl rfl ?_
    obtain ⟨c39, hf⟩ := qchk hf
    refine R_ast rfl ho.2.2.2.1 c39 ?_
    obtain rfl := Option.some.inj hf
    exact key
  · refine R_CmNe_t rfl c38 ?_
    obtain rfl := Option.some.inj hf
    exact key
def f_X0_leaveSides_L25 (N : Nat) (r0 : Nat) (l1 : Int32) (l2 : Int32) : Nat → Int32 → qN → Option (qN)
  | 0, _, _ => none
  | n + 1, l3, h =>
    if (h r0 5) ≤ l3 then
      some h
    else
      qbind (f_X0_isOver r0 l3 h) fun (x50, h49) =>
      qbind (
          if x50 = 0 then
            qbind (f_X0_changeSides r0 l3 l1 ((10 : Int32) + l2) h49) fun h53 =>
            some h53
          else
            some h49 : Option (qN)) fun h55 =>
      f_X0_leaveSides_L25 N r0 l1 l2 n (l3 + (1 : Int32)) h55
set_option maxRecDepth 100000 in
theorem t_X0_leaveSides_L25 {d N : Nat} (hd : 1 ≤ d) : ∀ (n : Nat) (r0 : Nat) (l1 : Int32) (l2 : Int32) (hr0 : isC r0) (l3 : Int32) (h : qN) (h2 : qN), f_X0_leaveSides_L25 N r0 l1 l2 n l3 h = some h2 → ∀ (v : Option Value) (h1 : qN), RR d cd_X0_leaveSides (0, 0) 57 [qU, qU, qU, qU] [] h2 v h1 → RR d cd_X0_leaveSides (0, 0) 25 [.ref r0, .int l1, .int l2, .int l3] [] h v h1 := by
  intro n
  induction n with
  | zero =>
    intro r0 l1 l2 hr0 l3 h h2 hf v h1 hE
    exact absurd hf (by simp [f_X0_leaveSides_L25])
  | succ n ih =>
    intro r0 l1 l2 hr0 l3 h h2 hf v h1 hE
    unfold f_X0_leaveSides_L25 at hf
    refine R_ldI rfl rfl ?_
    refine R_ldA rfl rfl ?_
    refine R_get rfl hr0.1 rfl rfl ?_
    rcases qite hf with ⟨c48, hf⟩ | ⟨c48, hf⟩
    · refine R_CmGe_t rfl c48 ?_
      refine R_drop [false, false, false, false] (ls' := [qU, qU, qU, qU]) rfl ?_
      obtain rfl := Option.some.inj hf
      exact hE
    · refine R_CmGe_f rfl c48 ?_
      refine R_ldA rfl rfl ?_
      refine R_ldI rfl rfl ?_
      obtain ⟨⟨x50, h49⟩, e51, hf⟩ := qbind_some hf
      dsimp only at hf
      refine R_callVi (as := [.ref r0, .int l3]) (rest := []) rfl rfl hr0.1 rfl rfl rfl rfl (t_X0_isOver (by omega) r0 l3 hr0 h e51) ?_
      obtain ⟨h55, e56, hf⟩ := qbind_some hf
      have key : RR d cd_X0_leaveSides (0, 0) 51 [.ref r0, .int l1, .int l2, .int l3] [] h55 v h1 := by
        clear e56
        refine R_inc (ls' := [.ref r0, .int l1, .int l2, .int (l3 + (1 : Int32))]) rfl rfl rfl rfl ?_
        refine R_goto rfl ?_
        exact ih r0 l1 l2 hr0 (l3 + (1 : Int32)) h55 _ hf _ _ hE
      clear hf
      have hf := e56
      clear e56
      rcases qite hf with ⟨c52, hf⟩ | ⟨c52, hf⟩
      · refine R_IfNe_f rfl c52 ?_
        refine R_ldA rfl rfl ?_
        refine R_ldI rfl rfl ?_
        refine R_ldI rfl rfl ?_
        refine R_I rfl ?_
        refine R_ldI rfl rfl ?_
        refine R_bin rfl ?_
        obtain ⟨h53, e54, hf⟩ := qbind_some hf
        refine R_callVv (as := [.ref r0, .int l3, .int l1, .int ((10 : Int32) + l2)]) (rest := []) rfl rfl hr0.1 rfl rfl rfl rfl (t_X0_changeSides (by omega) r0 l3 l1 ((10 : Int32) + l2) hr0 h49 e54) ?_
        obtain rfl := Option.some.inj hf
        exact key
      · refine R_IfNe_t rfl c52 ?_
        obtain rfl := Option.some.inj hf
        exact key
def f_X0_leaveSides (N : Nat) (o : Nat) (a1 : Int32) (h : qN) : Option (qN) :=
  if a1 < 0 ∨ 8 ≤ a1.toNatClampNeg then none else
  if (h (o + 1) 0) = 0 then
    some h
  else
    if (h (o + 2) a1.toNatClampNeg) = (6 : Int32) then
      some h
    else
      qbind (f_X0_leaveSides_L25 N o a1 (h (o + 2) a1.toNatClampNeg) N (0 : Int32) h) fun h58 =>
      some h58
set_option maxRecDepth 100000 in
theorem t_X0_leaveSides {d N : Nat} (hd : 2 ≤ d) (o : Nat) (a1 : Int32) (ho : isC o) (h : qN) {h1 : qN} (hf : f_X0_leaveSides N o a1 h = some h1) : EE d 8 [.ref o, .int a1] h none h1 := by
  obtain ⟨d, rfl⟩ : ∃ d0, d = d0 + 1 := ⟨d - 1, by omega⟩
  unfold f_X0_leaveSides at hf
  refine E_intro qm_8 qc_8 (Nat.le_of_ble_eq_true rfl) rfl rfl ?_
  show RR d cd_X0_leaveSides (0, 0) 0 [.ref o, .int a1, qU, qU] [] h none h1
  refine R_ldA rfl rfl ?_
  refine R_get rfl ho.1 rfl rfl ?_
  refine R_ldI rfl rfl ?_
  obtain ⟨c45, hf⟩ := qchk hf
  refine R_ald rfl ho.2.2.1 c45 ?_
  refine R_stI (ls' := [.ref o, .int a1, .int (h (o + 2) a1.toNatClampNeg), qU]) rfl rfl rfl rfl ?_
  refine R_ldA rfl rfl ?_
  refine R_get rfl ho.1 rfl rfl ?_
  refine R_I rfl ?_
  refine R_aldC (j := 0) rfl ho.2.1 (by decide) ?_
  rcases qite hf with ⟨c46, hf⟩ | ⟨c46, hf⟩
  · refine R_IfEq_t rfl c46 ?_
    obtain rfl := Option.some.inj hf
    exact R_retV rfl
  · refine R_IfEq_f rfl c46 ?_
    refine R_ldI rfl rfl ?_
    refine R_I rfl ?_
    rcases qite hf with ⟨c47, hf⟩ | ⟨c47, hf⟩
    · refine R_CmNe_f rfl c47 ?_
      obtain rfl := Option.some.inj hf
      exact R_retV rfl
    · refine R_CmNe_t rfl c47 ?_
      refine R_I rfl ?_
      refine R_stI (ls' := [.ref o, .int a1, .int (h (o + 2) a1.toNatClampNeg), .int (0 : Int32)]) rfl rfl rfl rfl ?_
      obtain ⟨h58, e59, hf⟩ := qbind_some hf
      refine t_X0_leaveSides_L25 (N := N) (by omega) _ o a1 (h (o + 2) a1.toNatClampNeg) ho (0 : Int32) h h58 e59 _ _ ?_
      obtain rfl := Option.some.inj hf
      exact R_retV rfl
def f_X0_move (N : Nat) (o : Nat) (a1 : Int32) (a2 : Int32) (h : qN) : Option (Int32 × qN) :=
  qbind (f_X0_leaveSides N o a1 h) fun h62 =>
  if a1 < 0 ∨ 8 ≤ a1.toNatClampNeg then none else
  qbind (f_X0_settle N o (qup h62 (o + 2) a1.toNatClampNeg a2)) fun (x66, h65) =>
  some (x66, h65)
set_option maxRecDepth 100000 in
theorem t_X0_move {d N : Nat} (hd : 3 ≤ d) (o : Nat) (a1 : Int32) (a2 : Int32) (ho : isC o) (h : qN) {v0 : Int32} {h1 : qN} (hf : f_X0_move N o a1 a2 h = some (v0, h1)) : EE d 6 [.ref o, .int a1, .int a2] h (some (.int v0)) h1 := by
  obtain ⟨d, rfl⟩ : ∃ d0, d = d0 + 1 := ⟨d - 1, by omega⟩
  unfold f_X0_move at hf
  refine E_intro qm_6 qc_6 (Nat.le_of_ble_eq_true rfl) rfl rfl ?_
  show RR d cd_X0_move (0, 0) 0 [.ref o, .int a1, .int a2] [] h (some (.int v0)) h1
  refine R_ldA rfl rfl ?_
  refine R_ldI rfl rfl ?_
  obtain ⟨h62, e63, hf⟩ := qbind_some hf
  refine R_callVv (as := [.ref o, .int a1]) (rest := []) rfl rfl ho.1 rfl rfl rfl rfl (t_X0_leaveSides (N := N) (by omega) o a1 ho h e63) ?_
  refine R_ldA rfl rfl ?_
  refine R_get rfl ho.1 rfl rfl ?_
  refine R_ldI rfl rfl ?_
  refine R_ldI rfl rfl ?_
  obtain ⟨c64, hf⟩ := qchk hf
  refine R_ast rfl ho.2.2.1 c64 ?_
  refine R_ldA rfl rfl ?_
  obtain ⟨⟨x66, h65⟩, e67, hf⟩ := qbind_some hf
  dsimp only at hf
  refine R_callVi (as := [.ref o]) (rest := []) rfl rfl ho.1 rfl rfl rfl rfl (t_X0_settle (N := N) (by omega) o ho (qup h62 (o + 2) a1.toNatClampNeg a2) e67) ?_
  obtain ⟨rfl, rfl⟩ := qinj2 hf
  exact R_retI rfl
def f_X0_exchange (N : Nat) (o : Nat) (a1 : Int32) (a2 : Int32) (h : qN) : Option (Int32 × qN) :=
  qbind (f_X0_leaveSides N o a1 h) fun h68 =>
  qbind (f_X0_leaveSides N o a2 h68) fun h70 =>
  if a1 < 0 ∨ 8 ≤ a1.toNatClampNeg then none else
  if a2 < 0 ∨ 8 ≤ a2.toNatClampNeg then none else
  if a1 < 0 ∨ 8 ≤ a1.toNatClampNeg then none else
  if a2 < 0 ∨ 8 ≤ a2.toNatClampNeg then none else
  qbind (f_X0_settle N o (qup (qup h70 (o + 2) a1.toNatClampNeg (h70 (o + 2) a2.toNatClampNeg)) (o + 2) a2.toNatClampNeg (h70 (o + 2) a1.toNatClampNeg))) fun (x77, h76) =>
  some (x77, h76)
set_option maxRecDepth 100000 in
theorem t_X0_exchange {d N : Nat} (hd : 3 ≤ d) (o : Nat) (a1 : Int32) (a2 : Int32) (ho : isC o) (h : qN) {v0 : Int32} {h1 : qN} (hf : f_X0_exchange N o a1 a2 h = some (v0, h1)) : EE d 7 [.ref o, .int a1, .int a2] h (some (.int v0)) h1 := by
  obtain ⟨d, rfl⟩ : ∃ d0, d = d0 + 1 := ⟨d - 1, by omega⟩
  unfold f_X0_exchange at hf
  refine E_intro qm_7 qc_7 (Nat.le_of_ble_eq_true rfl) rfl rfl ?_
  show RR d cd_X0_exchange (0, 0) 0 [.ref o, .int a1, .int a2, qU] [] h (some (.int v0)) h1
  refine R_ldA rfl rfl ?_
  refine R_ldI rfl rfl ?_
  obtain ⟨h68, e69, hf⟩ := qbind_some hf
  refine R_callVv (as := [.ref o, .int a1]) (rest := []) rfl rfl ho.1 rfl rfl rfl rfl (t_X0_leaveSides (N := N) (by omega) o a1 ho h e69) ?_
  refine R_ldA rfl rfl ?_
  refine R_ldI rfl rfl ?_
  obtain ⟨h70, e71, hf⟩ := qbind_some hf
  refine R_callVv (as := [.ref o, .int a2]) (rest := []) rfl rfl ho.1 rfl rfl rfl rfl (t_X0_leaveSides (N := N) (by omega) o a2 ho h68 e71) ?_
  refine R_ldA rfl rfl ?_
  refine R_get rfl ho.1 rfl rfl ?_
  refine R_ldI rfl rfl ?_
  obtain ⟨c72, hf⟩ := qchk hf
  refine R_ald rfl ho.2.2.1 c72 ?_
  refine R_stI (ls' := [.ref o, .int a1, .int a2, .int (h70 (o + 2) a1.toNatClampNeg)]) rfl rfl rfl rfl ?_
  refine R_ldA rfl rfl ?_
  refine R_get rfl ho.1 rfl rfl ?_
  refine R_ldI rfl rfl ?_
  refine R_ldA rfl rfl ?_
  refine R_get rfl ho.1 rfl rfl ?_
  refine R_ldI rfl rfl ?_
  obtain ⟨c73, hf⟩ := qchk hf
  refine R_ald rfl ho.2.2.1 c73 ?_
  obtain ⟨c74, hf⟩ := qchk hf
  refine R_ast rfl ho.2.2.1 c74 ?_
  refine R_ldA rfl rfl ?_
  refine R_get rfl ho.1 rfl rfl ?_
  refine R_ldI rfl rfl ?_
  refine R_ldI rfl rfl ?_
  obtain ⟨c75, hf⟩ := qchk hf
  refine R_ast rfl ho.2.2.1 c75 ?_
  refine R_ldA rfl rfl ?_
  obtain ⟨⟨x77, h76⟩, e78, hf⟩ := qbind_some hf
  dsimp only at hf
  refine R_callVi (as := [.ref o]) (rest := []) rfl rfl ho.1 rfl rfl rfl rfl (t_X0_settle (N := N) (by omega) o ho (qup (qup h70 (o + 2) a1.toNatClampNeg (h70 (o + 2) a2.toNatClampNeg)) (o + 2) a2.toNatClampNeg (h70 (o + 2) a1.toNatClampNeg)) e78) ?_
  obtain ⟨rfl, rfl⟩ := qinj2 hf
  exact R_retI rfl
def f_X0_marry_L2 (N : Nat) (r0 : Nat) (l1 : Int32) (l2 : Int32) : Nat → Int32 → qN → Option (qN)
  | 0, _, _ => none
  | n + 1, l3, h =>
    if (h r0 4) ≤ l3 then
      some h
    else
      if l3 < 0 ∨ 8 ≤ l3.toNatClampNeg then none else
      qbind (
          if (h (r0 + 2) l3.toNatClampNeg) = l2 then
            if l3 < 0 ∨ 8 ≤ l3.toNatClampNeg then none else
            some (qup h (r0 + 2) l3.toNatClampNeg l1)
          else
            some h : Option (qN)) fun h83 =>
      f_X0_marry_L2 N r0 l1 l2 n (l3 + (1 : Int32)) h83
set_option maxRecDepth 100000 in
theorem t_X0_marry_L2 {d N : Nat} (hd : 2 ≤ d) : ∀ (n : Nat) (r0 : Nat) (l1 : Int32) (l2 : Int32) (hr0 : isC r0) (l3 : Int32) (h : qN) (h2 : qN), f_X0_marry_L2 N r0 l1 l2 n l3 h = some h2 → ∀ (v : Option Value) (h1 : qN), RR d cd_X0_marry (0, 0) 33 [.ref r0, .int l1, .int l2, qU] [] h2 v h1 → RR d cd_X0_marry (0, 0) 2 [.ref r0, .int l1, .int l2, .int l3] [] h v h1 := by
  intro n
  induction n with
  | zero =>
    intro r0 l1 l2 hr0 l3 h h2 hf v h1 hE
    exact absurd hf (by simp [f_X0_marry_L2])
  | succ n ih =>
    intro r0 l1 l2 hr0 l3 h h2 hf v h1 hE
    unfold f_X0_marry_L2 at hf
    refine R_ldI rfl rfl ?_
    refine R_ldA rfl rfl ?_
    refine R_get rfl hr0.1 rfl rfl ?_
    rcases qite hf with ⟨c79, hf⟩ | ⟨c79, hf⟩
    · refine R_CmGe_t rfl c79 ?_
      refine R_drop [true, true, true, false] (ls' := [.ref r0, .int l1, .int l2, qU]) rfl ?_
      obtain rfl := Option.some.inj hf
      exact hE
    · refine R_CmGe_f rfl c79 ?_
      refine R_ldA rfl rfl ?_
      refine R_get rfl hr0.1 rfl rfl ?_
      refine R_ldI rfl rfl ?_
      obtain ⟨c80, hf⟩ := qchk hf
      refine R_ald rfl hr0.2.2.1 c80 ?_
      refine R_ldI rfl rfl ?_
      obtain ⟨h83, e84, hf⟩ := qbind_some hf
      have key : RR d cd_X0_marry (0, 0) 27 [.ref r0, .int l1, .int l2, .int l3] [] h83 v h1 := by
        clear e84
        refine R_inc (ls' := [.ref r0, .int l1, .int l2, .int (l3 + (1 : Int32))]) rfl rfl rfl rfl ?_
        refine R_goto rfl ?_
        exact ih r0 l1 l2 hr0 (l3 + (1 : Int32)) h83 _ hf _ _ hE
      clear hf
      have hf := e84
      clear e84
      rcases qite hf with ⟨c81, hf⟩ | ⟨c81, hf⟩
      · refine R_CmNe_f rfl c81 ?_
        refine R_ldA rfl rfl ?_
        refine R_get rfl hr0.1 rfl rfl ?_
        refine R_ldI rfl rfl ?_
        refine R_ldI rfl rfl ?_
        obtain ⟨c82, hf⟩ := qchk hf
        refine R_ast rfl hr0.2.2.1 c82 ?_
        obtain rfl := Option.some.inj hf
        exact key
      · refine R_CmNe_t rfl c81 ?_
        obtain rfl := Option.some.inj hf
        exact key
def f_X0_marry_L35 (N : Nat) (r0 : Nat) (l1 : Int32) (l2 : Int32) : Nat → Int32 → qN → Option (qN)
  | 0, _, _ => none
  | n + 1, l3, h =>
    if (h r0 5) ≤ l3 then
      some h
    else
      qbind (f_X0_changeSides r0 l3 ((10 : Int32) + l2) ((10 : Int32) + l1) h) fun h89 =>
      f_X0_marry_L35 N r0 l1 l2 n (l3 + (1 : Int32)) h89
set_option maxRecDepth 100000 in
theorem t_X0_marry_L35 {d N : Nat} (hd : 2 ≤ d) : ∀ (n : Nat) (r0 : Nat) (l1 : Int32) (l2 : Int32) (hr0 : isC r0) (l3 : Int32) (h : qN) (h2 : qN), f_X0_marry_L35 N r0 l1 l2 n l3 h = some h2 → ∀ (v : Option Value) (h1 : qN), RR d cd_X0_marry (0, 0) 62 [.ref r0, qU, qU, qU] [] h2 v h1 → RR d cd_X0_marry (0, 0) 35 [.ref r0, .int l1, .int l2, .int l3] [] h v h1 := by
  intro n
  induction n with
  | zero =>
    intro r0 l1 l2 hr0 l3 h h2 hf v h1 hE
    exact absurd hf (by simp [f_X0_marry_L35])
  | succ n ih =>
    intro r0 l1 l2 hr0 l3 h h2 hf v h1 hE
    unfold f_X0_marry_L35 at hf
    refine R_ldI rfl rfl ?_
    refine R_ldA rfl rfl ?_
    refine R_get rfl hr0.1 rfl rfl ?_
    rcases qite hf with ⟨c88, hf⟩ | ⟨c88, hf⟩
    · refine R_CmGe_t rfl c88 ?_
      refine R_drop [true, false, false, false] (ls' := [.ref r0, qU, qU, qU]) rfl ?_
      obtain rfl := Option.some.inj hf
      exact hE
    · refine R_CmGe_f rfl c88 ?_
      refine R_ldA rfl rfl ?_
      refine R_ldI rfl rfl ?_
      refine R_I rfl ?_
      refine R_ldI rfl rfl ?_
      refine R_bin rfl ?_
      refine R_I rfl ?_
      refine R_ldI rfl rfl ?_
      refine R_bin rfl ?_
      obtain ⟨h89, e90, hf⟩ := qbind_some hf
      refine R_callVv (as := [.ref r0, .int l3, .int ((10 : Int32) + l2), .int ((10 : Int32) + l1)]) (rest := []) rfl rfl hr0.1 rfl rfl rfl rfl (t_X0_changeSides (by omega) r0 l3 ((10 : Int32) + l2) ((10 : Int32) + l1) hr0 h e90) ?_
      refine R_inc (ls' := [.ref r0, .int l1, .int l2, .int (l3 + (1 : Int32))]) rfl rfl rfl rfl ?_
      refine R_goto rfl ?_
      exact ih r0 l1 l2 hr0 (l3 + (1 : Int32)) h89 _ hf _ _ hE
def f_X0_marry (N : Nat) (o : Nat) (a1 : Int32) (a2 : Int32) (h : qN) : Option (Int32 × qN) :=
  qbind (f_X0_marry_L2 N o a1 a2 N (0 : Int32) h) fun h86 =>
  qbind (f_X0_marry_L35 N o a1 a2 N (0 : Int32) h86) fun h92 =>
  qbind (f_X0_settle N o h92) fun (x95, h94) =>
  some (x95, h94)
set_option maxRecDepth 100000 in
theorem t_X0_marry {d N : Nat} (hd : 3 ≤ d) (o : Nat) (a1 : Int32) (a2 : Int32) (ho : isC o) (h : qN) {v0 : Int32} {h1 : qN} (hf : f_X0_marry N o a1 a2 h = some (v0, h1)) : EE d 10 [.ref o, .int a1, .int a2] h (some (.int v0)) h1 := by
  obtain ⟨d, rfl⟩ : ∃ d0, d = d0 + 1 := ⟨d - 1, by omega⟩
  unfold f_X0_marry at hf
  refine E_intro qm_10 qc_10 (Nat.le_of_ble_eq_true rfl) rfl rfl ?_
  show RR d cd_X0_marry (0, 0) 0 [.ref o, .int a1, .int a2, qU] [] h (some (.int v0)) h1
  refine R_I rfl ?_
  refine R_stI (ls' := [.ref o, .int a1, .int a2, .int (0 : Int32)]) rfl rfl rfl rfl ?_
  obtain ⟨h86, e87, hf⟩ := qbind_some hf
  refine t_X0_marry_L2 (N := N) (by omega) _ o a1 a2 ho (0 : Int32) h h86 e87 _ _ ?_
  refine R_I rfl ?_
  refine R_stI (ls' := [.ref o, .int a1, .int a2, .int (0 : Int32)]) rfl rfl rfl rfl ?_
  obtain ⟨h92, e93, hf⟩ := qbind_some hf
  refine t_X0_marry_L35 (N := N) (by omega) _ o a1 a2 ho (0 : Int32) h86 h92 e93 _ _ ?_
  refine R_ldA rfl rfl ?_
  obtain ⟨⟨x95, h94⟩, e96, hf⟩ := qbind_some hf
  dsimp only at hf
  refine R_callVi (as := [.ref o]) (rest := []) rfl rfl ho.1 rfl rfl rfl rfl (t_X0_settle (N := N) (by omega) o ho h92 e96) ?_
  obtain ⟨rfl, rfl⟩ := qinj2 hf
  exact R_retI rfl
def f_X0_addThing (o : Nat) (a1 : Int32) (h : qN) : Option (Int32 × qN) :=
  if (h o 4) < 0 ∨ 8 ≤ (h o 4).toNatClampNeg then none else
  some ((h o 4), (qup (qup h (o + 2) (h o 4).toNatClampNeg a1) o 4 (((qup h (o + 2) (h o 4).toNatClampNeg a1) o 4) + (1 : Int32))))
set_option maxRecDepth 100000 in
theorem t_X0_addThing {d : Nat} (hd : 1 ≤ d) (o : Nat) (a1 : Int32) (ho : isC o) (h : qN) {v0 : Int32} {h1 : qN} (hf : f_X0_addThing o a1 h = some (v0, h1)) : EE d 11 [.ref o, .int a1] h (some (.int v0)) h1 := by
  obtain ⟨d, rfl⟩ : ∃ d0, d = d0 + 1 := ⟨d - 1, by omega⟩
  unfold f_X0_addThing at hf
  refine E_intro qm_11 qc_11 (Nat.le_of_ble_eq_true rfl) rfl rfl ?_
  show RR d cd_X0_addThing (0, 0) 0 [.ref o, .int a1, qU] [] h (some (.int v0)) h1
  refine R_ldA rfl rfl ?_
  refine R_get rfl ho.1 rfl rfl ?_
  refine R_stI (ls' := [.ref o, .int a1, .int (h o 4)]) rfl rfl rfl rfl ?_
  refine R_ldA rfl rfl ?_
  refine R_get rfl ho.1 rfl rfl ?_
  refine R_ldI rfl rfl ?_
  refine R_ldI rfl rfl ?_
  obtain ⟨c101, hf⟩ := qchk hf
  refine R_ast rfl ho.2.2.1 c101 ?_
  refine R_ldA rfl rfl ?_
  refine R_dup rfl rfl ?_
  refine R_get rfl ho.1 rfl rfl ?_
  refine R_I rfl ?_
  refine R_bin rfl ?_
  refine R_putI rfl ho.1 rfl ?_
  refine R_ldI rfl rfl ?_
  obtain ⟨rfl, rfl⟩ := qinj2 hf
  exact R_retI rfl
def f_X0_split_L14 (N : Nat) (r0 : Nat) (l1 : Int32) (l2 : Int32) (l3 : Int32) : Nat → Int32 → qN → Option (qN)
  | 0, _, _ => none
  | n + 1, l4, h =>
    if (h r0 5) ≤ l4 then
      some h
    else
      qbind (
          if ((l2 >>> (l4 &&& 31)) &&& (1 : Int32)) = (1 : Int32) then
            qbind (f_X0_isOver r0 l4 h) fun (x109, h108) =>
            if x109 = 0 then
              qbind (f_X0_changeSides r0 l4 l1 l3 h108) fun h112 =>
              some h112
            else
              some h108
          else
            some h : Option (qN)) fun h114 =>
      f_X0_split_L14 N r0 l1 l2 l3 n (l4 + (1 : Int32)) h114
set_option maxRecDepth 100000 in
theorem t_X0_split_L14 {d N : Nat} (hd : 2 ≤ d) : ∀ (n : Nat) (r0 : Nat) (l1 : Int32) (l2 : Int32) (l3 : Int32) (hr0 : isC r0) (l4 : Int32) (h : qN) (h2 : qN), f_X0_split_L14 N r0 l1 l2 l3 n l4 h = some h2 → ∀ (v : Option Value) (h1 : qN), RR d cd_X0_split (0, 0) 56 [.ref r0, qU, qU, .int l3, qU] [] h2 v h1 → RR d cd_X0_split (0, 0) 14 [.ref r0, .int l1, .int l2, .int l3, .int l4] [] h v h1 := by
  intro n
  induction n with
  | zero =>
    intro r0 l1 l2 l3 hr0 l4 h h2 hf v h1 hE
    exact absurd hf (by simp [f_X0_split_L14])
  | succ n ih =>
    intro r0 l1 l2 l3 hr0 l4 h h2 hf v h1 hE
    unfold f_X0_split_L14 at hf
    refine R_ldI rfl rfl ?_
    refine R_ldA rfl rfl ?_
    refine R_get rfl hr0.1 rfl rfl ?_
    rcases qite hf with ⟨c106, hf⟩ | ⟨c106, hf⟩
    · refine R_CmGe_t rfl c106 ?_
      refine R_drop [true, false, false, true, false] (ls' := [.ref r0, qU, qU, .int l3, qU]) rfl ?_
      obtain rfl := Option.some.inj hf
      exact hE
    · refine R_CmGe_f rfl c106 ?_
      refine R_ldI rfl rfl ?_
      refine R_ldI rfl rfl ?_
      refine R_bin rfl ?_
      refine R_I rfl ?_
      refine R_bin rfl ?_
      refine R_I rfl ?_
      obtain ⟨h114, e115, hf⟩ := qbind_some hf
      have key : RR d cd_X0_split (0, 0) 50 [.ref r0, .int l1, .int l2, .int l3, .int l4] [] h114 v h1 := by
        clear e115
        refine R_inc (ls' := [.ref r0, .int l1, .int l2, .int l3, .int (l4 + (1 : Int32))]) rfl rfl rfl rfl ?_
        refine R_goto rfl ?_
        exact ih r0 l1 l2 l3 hr0 (l4 + (1 : Int32)) h114 _ hf _ _ hE
      clear hf
      have hf := e115
      clear e115
      rcases qite hf with ⟨c107, hf⟩ | ⟨c107, hf⟩
      · refine R_CmNe_f rfl c107 ?_
        refine R_ldA rfl rfl ?_
        refine R_ldI rfl rfl ?_
        obtain ⟨⟨x109, h108⟩, e110, hf⟩ := qbind_some hf
        dsimp only at hf
        refine R_callVi (as := [.ref r0, .int l4]) (rest := []) rfl rfl hr0.1 rfl rfl rfl rfl (t_X0_isOver (by omega) r0 l4 hr0 h e110) ?_
        rcases qite hf with ⟨c111, hf⟩ | ⟨c111, hf⟩
        · refine R_IfNe_f rfl c111 ?_
          refine R_ldA rfl rfl ?_
          refine R_ldI rfl rfl ?_
          refine R_ldI rfl rfl ?_
          refine R_ldI rfl rfl ?_
          obtain ⟨h112, e113, hf⟩ := qbind_some hf
          refine R_callVv (as := [.ref r0, .int l4, .int l1, .int l3]) (rest := []) rfl rfl hr0.1 rfl rfl rfl rfl (t_X0_changeSides (by omega) r0 l4 l1 l3 hr0 h108 e113) ?_
          obtain rfl := Option.some.inj hf
          exact key
        · refine R_IfNe_t rfl c111 ?_
          obtain rfl := Option.some.inj hf
          exact key
      · refine R_CmNe_t rfl c107 ?_
        obtain rfl := Option.some.inj hf
        exact key
def f_X0_split (N : Nat) (o : Nat) (a1 : Int32) (a2 : Int32) (h : qN) : Option (Int32 × qN) :=
  if a1 < 0 ∨ 8 ≤ a1.toNatClampNeg then none else
  qbind (f_X0_addThing o (h (o + 2) a1.toNatClampNeg) h) fun (x104, h103) =>
  qbind (f_X0_split_L14 N o a1 a2 x104 N (0 : Int32) h103) fun h117 =>
  qbind (f_X0_settle N o h117) fun (x120, h119) =>
  some (x104, h119)
set_option maxRecDepth 100000 in
theorem t_X0_split {d N : Nat} (hd : 3 ≤ d) (o : Nat) (a1 : Int32) (a2 : Int32) (ho : isC o) (h : qN) {v0 : Int32} {h1 : qN} (hf : f_X0_split N o a1 a2 h = some (v0, h1)) : EE d 12 [.ref o, .int a1, .int a2] h (some (.int v0)) h1 := by
  obtain ⟨d, rfl⟩ : ∃ d0, d = d0 + 1 := ⟨d - 1, by omega⟩
  unfold f_X0_split at hf
  refine E_intro qm_12 qc_12 (Nat.le_of_ble_eq_true rfl) rfl rfl ?_
  show RR d cd_X0_split (0, 0) 0 [.ref o, .int a1, .int a2, qU, qU] [] h (some (.int v0)) h1
  refine R_ldA rfl rfl ?_
  refine R_ldA rfl rfl ?_
  refine R_get rfl ho.1 rfl rfl ?_
  refine R_ldI rfl rfl ?_
  obtain ⟨c102, hf⟩ := qchk hf
  refine R_ald rfl ho.2.2.1 c102 ?_
  obtain ⟨⟨x104, h103⟩, e105, hf⟩ := qbind_some hf
  dsimp only at hf
  refine R_callVi (as := [.ref o, .int (h (o + 2) a1.toNatClampNeg)]) (rest := []) rfl rfl ho.1 rfl rfl rfl rfl (t_X0_addThing (by omega) o (h (o + 2) a1.toNatClampNeg) ho h e105) ?_
  refine R_stI (ls' := [.ref o, .int a1, .int a2, .int x104, qU]) rfl rfl rfl rfl ?_
  refine R_I rfl ?_
  refine R_stI (ls' := [.ref o, .int a1, .int a2, .int x104, .int (0 : Int32)]) rfl rfl rfl rfl ?_
  obtain ⟨h117, e118, hf⟩ := qbind_some hf
  refine t_X0_split_L14 (N := N) (by omega) _ o a1 a2 x104 ho (0 : Int32) h103 h117 e118 _ _ ?_
  refine R_ldA rfl rfl ?_
  obtain ⟨⟨x120, h119⟩, e121, hf⟩ := qbind_some hf
  dsimp only at hf
  refine R_callVi (as := [.ref o]) (rest := []) rfl rfl ho.1 rfl rfl rfl rfl (t_X0_settle (N := N) (by omega) o ho h117 e121) ?_
  refine R_pop rfl rfl ?_
  refine R_ldI rfl rfl ?_
  obtain ⟨rfl, rfl⟩ := qinj2 hf
  exact R_retI rfl
def f_X0_countStood_L4 (N : Nat) (r0 : Nat) (l1 : Int32) : Nat → Int32 → Int32 → qN → Option (Int32 × qN)
  | 0, _, _, _ => none
  | n + 1, l2, l3, h =>
    if (h r0 5) ≤ l3 then
      some (l2, h)
    else
      qbind (f_X0_isOver r0 l3 h) fun (x126, h125) =>
      qbind (
          if x126 = 0 then
            if l3 < 0 ∨ 12 ≤ l3.toNatClampNeg then none else
            qbind (f_X0_standing r0 (h125 (r0 + 3) l3.toNatClampNeg) h125) fun (x131, h130) =>
            if x131 = l1 then
              some ((l2 + (1 : Int32)), h130)
            else
              if l3 < 0 ∨ 12 ≤ l3.toNatClampNeg then none else
              qbind (f_X0_standing r0 (h130 (r0 + 4) l3.toNatClampNeg) h130) fun (x136, h135) =>
              if x136 = l1 then
                some ((l2 + (1 : Int32)), h135)
              else
                some (l2, h135)
          else
            some (l2, h125) : Option (Int32 × qN)) fun (x139, h140) =>
      f_X0_countStood_L4 N r0 l1 n x139 (l3 + (1 : Int32)) h140
set_option maxRecDepth 100000 in
theorem t_X0_countStood_L4 {d N : Nat} (hd : 1 ≤ d) : ∀ (n : Nat) (r0 : Nat) (l1 : Int32) (hr0 : isC r0) (l2 : Int32) (l3 : Int32) (h : qN) (y2 : Int32) (h2 : qN), f_X0_countStood_L4 N r0 l1 n l2 l3 h = some (y2, h2) → ∀ (v : Option Value) (h1 : qN), RR d cd_X0_countStood (0, 0) 57 [qU, qU, .int y2, qU] [] h2 v h1 → RR d cd_X0_countStood (0, 0) 4 [.ref r0, .int l1, .int l2, .int l3] [] h v h1 := by
  intro n
  induction n with
  | zero =>
    intro r0 l1 hr0 l2 l3 h y2 h2 hf v h1 hE
    exact absurd hf (by simp [f_X0_countStood_L4])
  | succ n ih =>
    intro r0 l1 hr0 l2 l3 h y2 h2 hf v h1 hE
    unfold f_X0_countStood_L4 at hf
    refine R_ldI rfl rfl ?_
    refine R_ldA rfl rfl ?_
    refine R_get rfl hr0.1 rfl rfl ?_
    rcases qite hf with ⟨c124, hf⟩ | ⟨c124, hf⟩
    · refine R_CmGe_t rfl c124 ?_
      refine R_drop [false, false, true, false] (ls' := [qU, qU, .int l2, qU]) rfl ?_
      obtain ⟨rfl, rfl⟩ := qinj2 hf
      exact hE
    · refine R_CmGe_f rfl c124 ?_
      refine R_ldA rfl rfl ?_
      refine R_ldI rfl rfl ?_
      obtain ⟨⟨x126, h125⟩, e127, hf⟩ := qbind_some hf
      dsimp only at hf
      refine R_callVi (as := [.ref r0, .int l3]) (rest := []) rfl rfl hr0.1 rfl rfl rfl rfl (t_X0_isOver (by omega) r0 l3 hr0 h e127) ?_
      obtain ⟨⟨x139, h140⟩, e141, hf⟩ := qbind_some hf
      dsimp only at hf
      have key : RR d cd_X0_countStood (0, 0) 51 [.ref r0, .int l1, .int x139, .int l3] [] h140 v h1 := by
        clear e141
        refine R_inc (ls' := [.ref r0, .int l1, .int x139, .int (l3 + (1 : Int32))]) rfl rfl rfl rfl ?_
        refine R_goto rfl ?_
        exact ih r0 l1 hr0 x139 (l3 + (1 : Int32)) h140 _ _ hf _ _ hE
      clear hf
      have hf := e141
      clear e141
      rcases qite hf with ⟨c128, hf⟩ | ⟨c128, hf⟩
      · refine R_IfNe_f rfl c128 ?_
        refine R_ldA rfl rfl ?_
        refine R_ldA rfl rfl ?_
        refine R_get rfl hr0.1 rfl rfl ?_
        refine R_ldI rfl rfl ?_
        obtain ⟨c129, hf⟩ := qchk hf
        refine R_ald rfl hr0.2.2.2.1 c129 ?_
        obtain ⟨⟨x131, h130⟩, e132, hf⟩ := qbind_some hf
        dsimp only at hf
        refine R_callVi (as := [.ref r0, .int (h125 (r0 + 3) l3.toNatClampNeg)]) (rest := []) rfl rfl hr0.1 rfl rfl rfl rfl (t_X0_standing (by omega) r0 (h125 (r0 + 3) l3.toNatClampNeg) hr0 h125 e132) ?_
        refine R_ldI rfl rfl ?_
        rcases qite hf with ⟨c133, hf⟩ | ⟨c133, hf⟩
        · refine R_CmEq_t rfl c133 ?_
          refine R_inc (ls' := [.ref r0, .int l1, .int (l2 + (1 : Int32)), .int l3]) rfl rfl rfl rfl ?_
          obtain ⟨rfl, rfl⟩ := qinj2 hf
          exact key
        · refine R_CmEq_f rfl c133 ?_
          refine R_ldA rfl rfl ?_
          refine R_ldA rfl rfl ?_
          refine R_get rfl hr0.1 rfl rfl ?_
          refine R_ldI rfl rfl ?_
          obtain ⟨c134, hf⟩ := qchk hf
          refine R_ald rfl hr0.2.2.2.2 c134 ?_
          obtain ⟨⟨x136, h135⟩, e137, hf⟩ := qbind_some hf
          dsimp only at hf
          refine R_callVi (as := [.ref r0, .int (h130 (r0 + 4) l3.toNatClampNeg)]) (rest := []) rfl rfl hr0.1 rfl rfl rfl rfl (t_X0_standing (by omega) r0 (h130 (r0 + 4) l3.toNatClampNeg) hr0 h130 e137) ?_
          refine R_ldI rfl rfl ?_
          rcases qite hf with ⟨c138, hf⟩ | ⟨c138, hf⟩
          · refine R_CmNe_f rfl c138 ?_
            refine R_inc (ls' := [.ref r0, .int l1, .int (l2 + (1 : Int32)), .int l3]) rfl rfl rfl rfl ?_
            obtain ⟨rfl, rfl⟩ := qinj2 hf
            exact key
          · refine R_CmNe_t rfl c138 ?_
            obtain ⟨rfl, rfl⟩ := qinj2 hf
            exact key
      · refine R_IfNe_t rfl c128 ?_
        obtain ⟨rfl, rfl⟩ := qinj2 hf
        exact key
def f_X0_countStood (N : Nat) (o : Nat) (a1 : Int32) (h : qN) : Option (Int32 × qN) :=
  qbind (f_X0_countStood_L4 N o a1 N (0 : Int32) (0 : Int32) h) fun (x143, h144) =>
  some (x143, h144)
set_option maxRecDepth 100000 in
theorem t_X0_countStood {d N : Nat} (hd : 2 ≤ d) (o : Nat) (a1 : Int32) (ho : isC o) (h : qN) {v0 : Int32} {h1 : qN} (hf : f_X0_countStood N o a1 h = some (v0, h1)) : EE d 13 [.ref o, .int a1] h (some (.int v0)) h1 := by
  obtain ⟨d, rfl⟩ : ∃ d0, d = d0 + 1 := ⟨d - 1, by omega⟩
  unfold f_X0_countStood at hf
  refine E_intro qm_13 qc_13 (Nat.le_of_ble_eq_true rfl) rfl rfl ?_
  show RR d cd_X0_countStood (0, 0) 0 [.ref o, .int a1, qU, qU] [] h (some (.int v0)) h1
  refine R_I rfl ?_
  refine R_stI (ls' := [.ref o, .int a1, .int (0 : Int32), qU]) rfl rfl rfl rfl ?_
  refine R_I rfl ?_
  refine R_stI (ls' := [.ref o, .int a1, .int (0 : Int32), .int (0 : Int32)]) rfl rfl rfl rfl ?_
  obtain ⟨⟨x143, h144⟩, e145, hf⟩ := qbind_some hf
  dsimp only at hf
  refine t_X0_countStood_L4 (N := N) (by omega) _ o a1 ho (0 : Int32) (0 : Int32) h x143 h144 e145 _ _ ?_
  refine R_ldI rfl rfl ?_
  obtain ⟨rfl, rfl⟩ := qinj2 hf
  exact R_retI rfl
def f_X0_costTo (a0 : Int32) (r1 : Nat) (n1 : Nat) (h : qN) : Option (Int32 × qN) :=
  if a0 = (6 : Int32) then
    some ((0 : Int32), h)
  else
    if a0 < 0 ∨ n1 ≤ a0.toNatClampNeg then none else
    some ((h r1 a0.toNatClampNeg), h)
set_option maxRecDepth 100000 in
theorem t_X0_costTo {d : Nat} (hd : 1 ≤ d) (a0 : Int32) (r1 : Nat) (n1 : Nat) (hr1 : isA r1 n1) (h : qN) {v0 : Int32} {h1 : qN} (hf : f_X0_costTo a0 r1 n1 h = some (v0, h1)) : EE d 15 [.int a0, .ref r1] h (some (.int v0)) h1 := by
  obtain ⟨d, rfl⟩ : ∃ d0, d = d0 + 1 := ⟨d - 1, by omega⟩
  unfold f_X0_costTo at hf
  refine E_intro qm_15 qc_15 (Nat.le_of_ble_eq_true rfl) rfl rfl ?_
  show RR d cd_X0_costTo (0, 0) 0 [.int a0, .ref r1] [] h (some (.int v0)) h1
  refine R_ldI rfl rfl ?_
  refine R_I rfl ?_
  rcases qite hf with ⟨c148, hf⟩ | ⟨c148, hf⟩
  · refine R_CmNe_f rfl c148 ?_
    refine R_I rfl ?_
    refine R_goto rfl ?_
    obtain ⟨rfl, rfl⟩ := qinj2 hf
    exact R_retI rfl
  · refine R_CmNe_t rfl c148 ?_
    refine R_ldA rfl rfl ?_
    refine R_ldI rfl rfl ?_
    obtain ⟨c149, hf⟩ := qchk hf
    refine R_ald rfl hr1 c149 ?_
    obtain ⟨rfl, rfl⟩ := qinj2 hf
    exact R_retI rfl
def f_X0_costOfAll_L4 (N : Nat) (r0 : Nat) (r1 : Nat) (n1 : Nat) : Nat → Int32 → Int32 → qN → Option (Int32 × qN)
  | 0, _, _, _ => none
  | n + 1, l2, l3, h =>
    if (h r0 5) ≤ l3 then
      some (l2, h)
    else
      qbind (f_X0_isOver r0 l3 h) fun (x152, h151) =>
      qbind (
          if x152 = 0 then
            if l3 < 0 ∨ 12 ≤ l3.toNatClampNeg then none else
            qbind (f_X0_standing r0 (h151 (r0 + 3) l3.toNatClampNeg) h151) fun (x157, h156) =>
            qbind (f_X0_costTo x157 r1 n1 h156) fun (x160, h159) =>
            if l3 < 0 ∨ 12 ≤ l3.toNatClampNeg then none else
            qbind (f_X0_standing r0 (h159 (r0 + 4) l3.toNatClampNeg) h159) fun (x164, h163) =>
            qbind (f_X0_costTo x164 r1 n1 h163) fun (x167, h166) =>
            some ((l2 + (x160 + x167)), h166)
          else
            some (l2, h151) : Option (Int32 × qN)) fun (x169, h170) =>
      f_X0_costOfAll_L4 N r0 r1 n1 n x169 (l3 + (1 : Int32)) h170
set_option maxRecDepth 100000 in
theorem t_X0_costOfAll_L4 {d N : Nat} (hd : 1 ≤ d) : ∀ (n : Nat) (r0 : Nat) (r1 : Nat) (n1 : Nat) (hr0 : isC r0) (hr1 : isA r1 n1) (l2 : Int32) (l3 : Int32) (h : qN) (y2 : Int32) (h2 : qN), f_X0_costOfAll_L4 N r0 r1 n1 n l2 l3 h = some (y2, h2) → ∀ (v : Option Value) (h1 : qN), RR d cd_X0_costOfAll (0, 0) 58 [qU, qU, .int y2, qU] [] h2 v h1 → RR d cd_X0_costOfAll (0, 0) 4 [.ref r0, .ref r1, .int l2, .int l3] [] h v h1 := by
  intro n
  induction n with
  | zero =>
    intro r0 r1 n1 hr0 hr1 l2 l3 h y2 h2 hf v h1 hE
    exact absurd hf (by simp [f_X0_costOfAll_L4])
  | succ n ih =>
    intro r0 r1 n1 hr0 hr1 l2 l3 h y2 h2 hf v h1 hE
    unfold f_X0_costOfAll_L4 at hf
    refine R_ldI rfl rfl ?_
    refine R_ldA rfl rfl ?_
    refine R_get rfl hr0.1 rfl rfl ?_
    rcases qite hf with ⟨c150, hf⟩ | ⟨c150, hf⟩
    · refine R_CmGe_t rfl c150 ?_
      refine R_drop [false, false, true, false] (ls' := [qU, qU, .int l2, qU]) rfl ?_
      obtain ⟨rfl, rfl⟩ := qinj2 hf
      exact hE
    · refine R_CmGe_f rfl c150 ?_
      refine R_ldA rfl rfl ?_
      refine R_ldI rfl rfl ?_
      obtain ⟨⟨x152, h151⟩, e153, hf⟩ := qbind_some hf
      dsimp only at hf
      refine R_callVi (as := [.ref r0, .int l3]) (rest := []) rfl rfl hr0.1 rfl rfl rfl rfl (t_X0_isOver (by omega) r0 l3 hr0 h e153) ?_
      obtain ⟨⟨x169, h170⟩, e171, hf⟩ := qbind_some hf
      dsimp only at hf
      have key : RR d cd_X0_costOfAll (0, 0) 52 [.ref r0, .ref r1, .int x169, .int l3] [] h170 v h1 := by
        clear e171
        refine R_inc (ls' := [.ref r0, .ref r1, .int x169, .int (l3 + (1 : Int32))]) rfl rfl rfl rfl ?_
        refine R_goto rfl ?_
        exact ih r0 r1 n1 hr0 hr1 x169 (l3 + (1 : Int32)) h170 _ _ hf _ _ hE
      clear hf
      have hf := e171
      clear e171
      rcases qite hf with ⟨c154, hf⟩ | ⟨c154, hf⟩
      · refine R_IfNe_f rfl c154 ?_
        refine R_ldI rfl rfl ?_
        refine R_ldA rfl rfl ?_
        refine R_ldA rfl rfl ?_
        refine R_get rfl hr0.1 rfl rfl ?_
        refine R_ldI rfl rfl ?_
        obtain ⟨c155, hf⟩ := qchk hf
        refine R_ald rfl hr0.2.2.2.1 c155 ?_
        obtain ⟨⟨x157, h156⟩, e158, hf⟩ := qbind_some hf
        dsimp only at hf
        refine R_callVi (as := [.ref r0, .int (h151 (r0 + 3) l3.toNatClampNeg)]) (rest := [.int l2]) rfl rfl hr0.1 rfl rfl rfl rfl (t_X0_standing (by omega) r0 (h151 (r0 + 3) l3.toNatClampNeg) hr0 h151 e158) ?_
        refine R_ldA rfl rfl ?_
        obtain ⟨⟨x160, h159⟩, e161, hf⟩ := qbind_some hf
        dsimp only at hf
        refine R_callSi (as := [.int x157, .ref r1]) (rest := [.int l2]) rfl rfl rfl rfl rfl rfl (t_X0_costTo (by omega) x157 r1 n1 hr1 h156 e161) ?_
        refine R_ldA rfl rfl ?_
        refine R_ldA rfl rfl ?_
        refine R_get rfl hr0.1 rfl rfl ?_
        refine R_ldI rfl rfl ?_
        obtain ⟨c162, hf⟩ := qchk hf
        refine R_ald rfl hr0.2.2.2.2 c162 ?_
        obtain ⟨⟨x164, h163⟩, e165, hf⟩ := qbind_some hf
        dsimp only at hf
        refine R_callVi (as := [.ref r0, .int (h159 (r0 + 4) l3.toNatClampNeg)]) (rest := [.int x160, .int l2]) rfl rfl hr0.1 rfl rfl rfl rfl (t_X0_standing (by omega) r0 (h159 (r0 + 4) l3.toNatClampNeg) hr0 h159 e165) ?_
        refine R_ldA rfl rfl ?_
        obtain ⟨⟨x167, h166⟩, e168, hf⟩ := qbind_some hf
        dsimp only at hf
        refine R_callSi (as := [.int x164, .ref r1]) (rest := [.int x160, .int l2]) rfl rfl rfl rfl rfl rfl (t_X0_costTo (by omega) x164 r1 n1 hr1 h163 e168) ?_
        refine R_bin rfl ?_
        refine R_bin rfl ?_
        refine R_stI (ls' := [.ref r0, .ref r1, .int (l2 + (x160 + x167)), .int l3]) rfl rfl rfl rfl ?_
        obtain ⟨rfl, rfl⟩ := qinj2 hf
        exact key
      · refine R_IfNe_t rfl c154 ?_
        obtain ⟨rfl, rfl⟩ := qinj2 hf
        exact key
def f_X0_costOfAll (N : Nat) (o : Nat) (r1 : Nat) (n1 : Nat) (h : qN) : Option (Int32 × qN) :=
  qbind (f_X0_costOfAll_L4 N o r1 n1 N (0 : Int32) (0 : Int32) h) fun (x173, h174) =>
  some (x173, h174)
set_option maxRecDepth 100000 in
theorem t_X0_costOfAll {d N : Nat} (hd : 2 ≤ d) (o : Nat) (r1 : Nat) (n1 : Nat) (ho : isC o) (hr1 : isA r1 n1) (h : qN) {v0 : Int32} {h1 : qN} (hf : f_X0_costOfAll N o r1 n1 h = some (v0, h1)) : EE d 14 [.ref o, .ref r1] h (some (.int v0)) h1 := by
  obtain ⟨d, rfl⟩ : ∃ d0, d = d0 + 1 := ⟨d - 1, by omega⟩
  unfold f_X0_costOfAll at hf
  refine E_intro qm_14 qc_14 (Nat.le_of_ble_eq_true rfl) rfl rfl ?_
  show RR d cd_X0_costOfAll (0, 0) 0 [.ref o, .ref r1, qU, qU] [] h (some (.int v0)) h1
  refine R_I rfl ?_
  refine R_stI (ls' := [.ref o, .ref r1, .int (0 : Int32), qU]) rfl rfl rfl rfl ?_
  refine R_I rfl ?_
  refine R_stI (ls' := [.ref o, .ref r1, .int (0 : Int32), .int (0 : Int32)]) rfl rfl rfl rfl ?_
  obtain ⟨⟨x173, h174⟩, e175, hf⟩ := qbind_some hf
  dsimp only at hf
  refine t_X0_costOfAll_L4 (N := N) (by omega) _ o r1 n1 ho hr1 (0 : Int32) (0 : Int32) h x173 h174 e175 _ _ ?_
  refine R_ldI rfl rfl ?_
  obtain ⟨rfl, rfl⟩ := qinj2 hf
  exact R_retI rfl
def f_X0_neverEnding_L4 (N : Nat) (r0 : Nat) : Nat → Int32 → Int32 → qN → Option (Int32 × qN)
  | 0, _, _, _ => none
  | n + 1, l1, l2, h =>
    if (h r0 5) ≤ l2 then
      some (l1, h)
    else
      qbind (f_X0_isOver r0 l2 h) fun (x180, h179) =>
      qbind (
          if x180 = 0 then
            if l2 < 0 ∨ 12 ≤ l2.toNatClampNeg then none else
            if (h179 (r0 + 3) l2.toNatClampNeg) < (10 : Int32) then
              some l1
            else
              if l2 < 0 ∨ 12 ≤ l2.toNatClampNeg then none else
              if (h179 (r0 + 4) l2.toNatClampNeg) < (10 : Int32) then
                some l1
              else
                some (l1 ||| ((1 : Int32) <<< (l2 &&& 31)))
          else
            some l1 : Option (Int32)) fun x187 =>
      f_X0_neverEnding_L4 N r0 n x187 (l2 + (1 : Int32)) h179
set_option maxRecDepth 100000 in
theorem t_X0_neverEnding_L4 {d N : Nat} (hd : 1 ≤ d) : ∀ (n : Nat) (r0 : Nat) (hr0 : isC r0) (l1 : Int32) (l2 : Int32) (h : qN) (y1 : Int32) (h2 : qN), f_X0_neverEnding_L4 N r0 n l1 l2 h = some (y1, h2) → ∀ (v : Option Value) (h1 : qN), RR d cd_X0_neverEnding (0, 0) 54 [qU, .int y1, qU] [] h2 v h1 → RR d cd_X0_neverEnding (0, 0) 4 [.ref r0, .int l1, .int l2] [] h v h1 := by
  intro n
  induction n with
  | zero =>
    intro r0 hr0 l1 l2 h y1 h2 hf v h1 hE
    exact absurd hf (by simp [f_X0_neverEnding_L4])
  | succ n ih =>
    intro r0 hr0 l1 l2 h y1 h2 hf v h1 hE
    unfold f_X0_neverEnding_L4 at hf
    refine R_ldI rfl rfl ?_
    refine R_ldA rfl rfl ?_
    refine R_get rfl hr0.1 rfl rfl ?_
    rcases qite hf with ⟨c178, hf⟩ | ⟨c178, hf⟩
    · refine R_CmGe_t rfl c178 ?_
      refine R_drop [false, true, false] (ls' := [qU, .int l1, qU]) rfl ?_
      obtain ⟨rfl, rfl⟩ := qinj2 hf
      exact hE
    · refine R_CmGe_f rfl c178 ?_
      refine R_ldA rfl rfl ?_
      refine R_ldI rfl rfl ?_
      obtain ⟨⟨x180, h179⟩, e181, hf⟩ := qbind_some hf
      dsimp only at hf
      refine R_callVi (as := [.ref r0, .int l2]) (rest := []) rfl rfl hr0.1 rfl rfl rfl rfl (t_X0_isOver (by omega) r0 l2 hr0 h e181) ?_
      obtain ⟨x187, e188, hf⟩ := qbind_some hf
      have key : RR d cd_X0_neverEnding (0, 0) 48 [.ref r0, .int x187, .int l2] [] h179 v h1 := by
        clear e188
        refine R_inc (ls' := [.ref r0, .int x187, .int (l2 + (1 : Int32))]) rfl rfl rfl rfl ?_
        refine R_goto rfl ?_
        exact ih r0 hr0 x187 (l2 + (1 : Int32)) h179 _ _ hf _ _ hE
      clear hf
      have hf := e188
      clear e188
      rcases qite hf with ⟨c182, hf⟩ | ⟨c182, hf⟩
      · refine R_IfNe_f rfl c182 ?_
        refine R_ldA rfl rfl ?_
        refine R_get rfl hr0.1 rfl rfl ?_
        refine R_ldI rfl rfl ?_
        obtain ⟨c183, hf⟩ := qchk hf
        refine R_ald rfl hr0.2.2.2.1 c183 ?_
        refine R_I rfl ?_
        rcases qite hf with ⟨c184, hf⟩ | ⟨c184, hf⟩
        · refine R_CmLt_t rfl c184 ?_
          obtain rfl := Option.some.inj hf
          exact key
        · refine R_CmLt_f rfl c184 ?_
          refine R_ldA rfl rfl ?_
          refine R_get rfl hr0.1 rfl rfl ?_
          refine R_ldI rfl rfl ?_
          obtain ⟨c185, hf⟩ := qchk hf
          refine R_ald rfl hr0.2.2.2.2 c185 ?_
          refine R_I rfl ?_
          rcases qite hf with ⟨c186, hf⟩ | ⟨c186, hf⟩
          · refine R_CmLt_t rfl c186 ?_
            obtain rfl := Option.some.inj hf
            exact key
          · refine R_CmLt_f rfl c186 ?_
            refine R_ldI rfl rfl ?_
            refine R_I rfl ?_
            refine R_ldI rfl rfl ?_
            refine R_bin rfl ?_
            refine R_bin rfl ?_
            refine R_stI (ls' := [.ref r0, .int (l1 ||| ((1 : Int32) <<< (l2 &&& 31))), .int l2]) rfl rfl rfl rfl ?_
            obtain rfl := Option.some.inj hf
            exact key
      · refine R_IfNe_t rfl c182 ?_
        obtain rfl := Option.some.inj hf
        exact key
def f_X0_neverEnding (N : Nat) (o : Nat) (h : qN) : Option (Int32 × qN) :=
  qbind (f_X0_neverEnding_L4 N o N (0 : Int32) (0 : Int32) h) fun (x190, h191) =>
  some (x190, h191)
set_option maxRecDepth 100000 in
theorem t_X0_neverEnding {d N : Nat} (hd : 2 ≤ d) (o : Nat) (ho : isC o) (h : qN) {v0 : Int32} {h1 : qN} (hf : f_X0_neverEnding N o h = some (v0, h1)) : EE d 16 [.ref o] h (some (.int v0)) h1 := by
  obtain ⟨d, rfl⟩ : ∃ d0, d = d0 + 1 := ⟨d - 1, by omega⟩
  unfold f_X0_neverEnding at hf
  refine E_intro qm_16 qc_16 (Nat.le_of_ble_eq_true rfl) rfl rfl ?_
  show RR d cd_X0_neverEnding (0, 0) 0 [.ref o, qU, qU] [] h (some (.int v0)) h1
  refine R_I rfl ?_
  refine R_stI (ls' := [.ref o, .int (0 : Int32), qU]) rfl rfl rfl rfl ?_
  refine R_I rfl ?_
  refine R_stI (ls' := [.ref o, .int (0 : Int32), .int (0 : Int32)]) rfl rfl rfl rfl ?_
  obtain ⟨⟨x190, h191⟩, e192, hf⟩ := qbind_some hf
  dsimp only at hf
  refine t_X0_neverEnding_L4 (N := N) (by omega) _ o ho (0 : Int32) (0 : Int32) h x190 h191 e192 _ _ ?_
  refine R_ldI rfl rfl ?_
  obtain ⟨rfl, rfl⟩ := qinj2 hf
  exact R_retI rfl
def f_X0_sidesOf (o : Nat) (a1 : Int32) (h : qN) : Option (Int32 × qN) :=
  if a1 < 0 ∨ 12 ≤ a1.toNatClampNeg then none else
  if a1 < 0 ∨ 12 ≤ a1.toNatClampNeg then none else
  some ((((1 : Int32) <<< ((h (o + 3) a1.toNatClampNeg) &&& 31)) ||| ((1 : Int32) <<< ((h (o + 4) a1.toNatClampNeg) &&& 31))), h)
set_option maxRecDepth 100000 in
theorem t_X0_sidesOf {d : Nat} (hd : 1 ≤ d) (o : Nat) (a1 : Int32) (ho : isC o) (h : qN) {v0 : Int32} {h1 : qN} (hf : f_X0_sidesOf o a1 h = some (v0, h1)) : EE d 17 [.ref o, .int a1] h (some (.int v0)) h1 := by
  obtain ⟨d, rfl⟩ : ∃ d0, d = d0 + 1 := ⟨d - 1, by omega⟩
  unfold f_X0_sidesOf at hf
  refine E_intro qm_17 qc_17 (Nat.le_of_ble_eq_true rfl) rfl rfl ?_
  show RR d cd_X0_sidesOf (0, 0) 0 [.ref o, .int a1] [] h (some (.int v0)) h1
  refine R_I rfl ?_
  refine R_ldA rfl rfl ?_
  refine R_get rfl ho.1 rfl rfl ?_
  refine R_ldI rfl rfl ?_
  obtain ⟨c195, hf⟩ := qchk hf
  refine R_ald rfl ho.2.2.2.1 c195 ?_
  refine R_bin rfl ?_
  refine R_I rfl ?_
  refine R_ldA rfl rfl ?_
  refine R_get rfl ho.1 rfl rfl ?_
  refine R_ldI rfl rfl ?_
  obtain ⟨c196, hf⟩ := qchk hf
  refine R_ald rfl ho.2.2.2.2 c196 ?_
  refine R_bin rfl ?_
  refine R_bin rfl ?_
  obtain ⟨rfl, rfl⟩ := qinj2 hf
  exact R_retI rfl
def f_X0_widen_L2 (N : Nat) (r0 : Nat) : Nat → Int32 → Int32 → qN → Option (Int32 × qN)
  | 0, _, _, _ => none
  | n + 1, l1, l2, h =>
    if (h r0 5) ≤ l2 then
      some (l1, h)
    else
      qbind (f_X0_isOver r0 l2 h) fun (x199, h198) =>
      qbind (
          if x199 = 0 then
            qbind (f_X0_sidesOf r0 l2 h198) fun (x203, h202) =>
            if (l1 &&& x203) = 0 then
              some (l1, h202)
            else
              qbind (f_X0_sidesOf r0 l2 h202) fun (x207, h206) =>
              some ((l1 ||| x207), h206)
          else
            some (l1, h198) : Option (Int32 × qN)) fun (x209, h210) =>
      f_X0_widen_L2 N r0 n x209 (l2 + (1 : Int32)) h210
set_option maxRecDepth 100000 in
theorem t_X0_widen_L2 {d N : Nat} (hd : 1 ≤ d) : ∀ (n : Nat) (r0 : Nat) (hr0 : isC r0) (l1 : Int32) (l2 : Int32) (h : qN) (y1 : Int32) (h2 : qN), f_X0_widen_L2 N r0 n l1 l2 h = some (y1, h2) → ∀ (v : Option Value) (h1 : qN), RR d cd_X0_widen (0, 0) 42 [qU, .int y1, qU] [] h2 v h1 → RR d cd_X0_widen (0, 0) 2 [.ref r0, .int l1, .int l2] [] h v h1 := by
  intro n
  induction n with
  | zero =>
    intro r0 hr0 l1 l2 h y1 h2 hf v h1 hE
    exact absurd hf (by simp [f_X0_widen_L2])
  | succ n ih =>
    intro r0 hr0 l1 l2 h y1 h2 hf v h1 hE
    unfold f_X0_widen_L2 at hf
    refine R_ldI rfl rfl ?_
    refine R_ldA rfl rfl ?_
    refine R_get rfl hr0.1 rfl rfl ?_
    rcases qite hf with ⟨c197, hf⟩ | ⟨c197, hf⟩
    · refine R_CmGe_t rfl c197 ?_
      refine R_drop [false, true, false] (ls' := [qU, .int l1, qU]) rfl ?_
      obtain ⟨rfl, rfl⟩ := qinj2 hf
      exact hE
    · refine R_CmGe_f rfl c197 ?_
      refine R_ldA rfl rfl ?_
      refine R_ldI rfl rfl ?_
      obtain ⟨⟨x199, h198⟩, e200, hf⟩ := qbind_some hf
      dsimp only at hf
      refine R_callVi (as := [.ref r0, .int l2]) (rest := []) rfl rfl hr0.1 rfl rfl rfl rfl (t_X0_isOver (by omega) r0 l2 hr0 h e200) ?_
      obtain ⟨⟨x209, h210⟩, e211, hf⟩ := qbind_some hf
      dsimp only at hf
      have key : RR d cd_X0_widen (0, 0) 36 [.ref r0, .int x209, .int l2] [] h210 v h1 := by
        clear e211
        refine R_inc (ls' := [.ref r0, .int x209, .int (l2 + (1 : Int32))]) rfl rfl rfl rfl ?_
        refine R_goto rfl ?_
        exact ih r0 hr0 x209 (l2 + (1 : Int32)) h210 _ _ hf _ _ hE
      clear hf
      have hf := e211
      clear e211
      rcases qite hf with ⟨c201, hf⟩ | ⟨c201, hf⟩
      · refine R_IfNe_f rfl c201 ?_
        refine R_ldI rfl rfl ?_
        refine R_ldA rfl rfl ?_
        refine R_ldI rfl rfl ?_
        obtain ⟨⟨x203, h202⟩, e204, hf⟩ := qbind_some hf
        dsimp only at hf
        refine R_callVi (as := [.ref r0, .int l2]) (rest := [.int l1]) rfl rfl hr0.1 rfl rfl rfl rfl (t_X0_sidesOf (by omega) r0 l2 hr0 h198 e204) ?_
        refine R_bin rfl ?_
        rcases qite hf with ⟨c205, hf⟩ | ⟨c205, hf⟩
        · refine R_IfEq_t rfl c205 ?_
          obtain ⟨rfl, rfl⟩ := qinj2 hf
          exact key
        · refine R_IfEq_f rfl c205 ?_
          refine R_ldI rfl rfl ?_
          refine R_ldA rfl rfl ?_
          refine R_ldI rfl rfl ?_
          obtain ⟨⟨x207, h206⟩, e208, hf⟩ := qbind_some hf
          dsimp only at hf
          refine R_callVi (as := [.ref r0, .int l2]) (rest := [.int l1]) rfl rfl hr0.1 rfl rfl rfl rfl (t_X0_sidesOf (by omega) r0 l2 hr0 h202 e208) ?_
          refine R_bin rfl ?_
          refine R_stI (ls' := [.ref r0, .int (l1 ||| x207), .int l2]) rfl rfl rfl rfl ?_
          obtain ⟨rfl, rfl⟩ := qinj2 hf
          exact key
      · refine R_IfNe_t rfl c201 ?_
        obtain ⟨rfl, rfl⟩ := qinj2 hf
        exact key
def f_X0_widen (N : Nat) (o : Nat) (a1 : Int32) (h : qN) : Option (Int32 × qN) :=
  qbind (f_X0_widen_L2 N o N a1 (0 : Int32) h) fun (x213, h214) =>
  some (x213, h214)
set_option maxRecDepth 100000 in
theorem t_X0_widen {d N : Nat} (hd : 2 ≤ d) (o : Nat) (a1 : Int32) (ho : isC o) (h : qN) {v0 : Int32} {h1 : qN} (hf : f_X0_widen N o a1 h = some (v0, h1)) : EE d 19 [.ref o, .int a1] h (some (.int v0)) h1 := by
  obtain ⟨d, rfl⟩ : ∃ d0, d = d0 + 1 := ⟨d - 1, by omega⟩
  unfold f_X0_widen at hf
  refine E_intro qm_19 qc_19 (Nat.le_of_ble_eq_true rfl) rfl rfl ?_
  show RR d cd_X0_widen (0, 0) 0 [.ref o, .int a1, qU] [] h (some (.int v0)) h1
  refine R_I rfl ?_
  refine R_stI (ls' := [.ref o, .int a1, .int (0 : Int32)]) rfl rfl rfl rfl ?_
  obtain ⟨⟨x213, h214⟩, e215, hf⟩ := qbind_some hf
  dsimp only at hf
  refine t_X0_widen_L2 (N := N) (by omega) _ o ho a1 (0 : Int32) h x213 h214 e215 _ _ ?_
  refine R_ldI rfl rfl ?_
  obtain ⟨rfl, rfl⟩ := qinj2 hf
  exact R_retI rfl
def f_X0_groupOf_L6 (N : Nat) (r0 : Nat) : Nat → Int32 → Int32 → qN → Option ((Int32 × qN) ⊕ (Int32 × qN))
  | 0, _, _, _ => none
  | n + 1, l2, l3, h =>
    if (h r0 5) ≤ l3 then
      some (.inr (l2, h))
    else
      qbind (f_X0_widen N r0 l2 h) fun (x220, h219) =>
      if x220 = l2 then
        some (.inl (l2, h219))
      else
        f_X0_groupOf_L6 N r0 n x220 (l3 + (1 : Int32)) h219
set_option maxRecDepth 100000 in
theorem t_X0_groupOf_L6 {d N : Nat} (hd : 2 ≤ d) : ∀ (n : Nat) (r0 : Nat) (hr0 : isC r0) (l2 : Int32) (l3 : Int32) (h : qN) (res : (Int32 × qN) ⊕ (Int32 × qN)), f_X0_groupOf_L6 N r0 n l2 l3 h = some res → ∀ (v : Option Value) (h1 : qN), (∀ (rv : Int32) (rh : qN), res = .inl (rv, rh) → v = some (.int rv) ∧ h1 = rh) → (∀ (y2 : Int32) (h2 : qN), res = .inr (y2, h2) → RR d cd_X0_groupOf (0, 0) 38 [qU, qU, .int y2, qU, qU] [] h2 v h1) → RR d cd_X0_groupOf (0, 0) 6 [.ref r0, qU, .int l2, .int l3, qU] [] h v h1 := by
  intro n
  induction n with
  | zero =>
    intro r0 hr0 l2 l3 h res hf v h1 hR hE
    exact absurd hf (by simp [f_X0_groupOf_L6])
  | succ n ih =>
    intro r0 hr0 l2 l3 h res hf v h1 hR hE
    unfold f_X0_groupOf_L6 at hf
    refine R_ldI rfl rfl ?_
    refine R_ldA rfl rfl ?_
    refine R_get rfl hr0.1 rfl rfl ?_
    rcases qite hf with ⟨c218, hf⟩ | ⟨c218, hf⟩
    · refine R_CmGe_t rfl c218 ?_
      refine R_drop [false, true, true, false, true] (ls' := [qU, qU, .int l2, qU, qU]) rfl ?_
      obtain rfl := Option.some.inj hf
      exact hE _ _ rfl
    · refine R_CmGe_f rfl c218 ?_
      refine R_ldA rfl rfl ?_
      refine R_ldI rfl rfl ?_
      obtain ⟨⟨x220, h219⟩, e221, hf⟩ := qbind_some hf
      dsimp only at hf
      refine R_callVi (as := [.ref r0, .int l2]) (rest := []) rfl rfl hr0.1 rfl rfl rfl rfl (t_X0_widen (N := N) (by omega) r0 l2 hr0 h e221) ?_
      refine R_stI (ls' := [.ref r0, qU, .int l2, .int l3, .int x220]) rfl rfl rfl rfl ?_
      refine R_ldI rfl rfl ?_
      refine R_ldI rfl rfl ?_
      rcases qite hf with ⟨c222, hf⟩ | ⟨c222, hf⟩
      · refine R_CmNe_f rfl c222 ?_
        refine R_ldI rfl rfl ?_
        obtain rfl := Option.some.inj hf
        obtain ⟨rfl, rfl⟩ := hR _ _ rfl
        exact R_retI rfl
      · refine R_CmNe_t rfl c222 ?_
        refine R_ldI rfl rfl ?_
        refine R_stI (ls' := [.ref r0, qU, .int x220, .int l3, .int x220]) rfl rfl rfl rfl ?_
        refine R_inc (ls' := [.ref r0, qU, .int x220, .int (l3 + (1 : Int32)), .int x220]) rfl rfl rfl rfl ?_
        refine R_goto rfl ?_
        refine R_drop [true, true, true, true, false] (ls' := [.ref r0, qU, .int x220, .int (l3 + (1 : Int32)), qU]) rfl ?_
        exact ih r0 hr0 x220 (l3 + (1 : Int32)) h219 _ hf _ _ hR hE
def f_X0_groupOf (N : Nat) (o : Nat) (a1 : Int32) (h : qN) : Option (Int32 × qN) :=
  qbind (f_X0_groupOf_L6 N o N ((1 : Int32) <<< (a1 &&& 31)) (0 : Int32) h) fun
    | .inl (x227, h228) => some (x227, h228)
    | .inr (x224, h225) =>
      some (x224, h225)
set_option maxRecDepth 100000 in
theorem t_X0_groupOf {d N : Nat} (hd : 3 ≤ d) (o : Nat) (a1 : Int32) (ho : isC o) (h : qN) {v0 : Int32} {h1 : qN} (hf : f_X0_groupOf N o a1 h = some (v0, h1)) : EE d 18 [.ref o, .int a1] h (some (.int v0)) h1 := by
  obtain ⟨d, rfl⟩ : ∃ d0, d = d0 + 1 := ⟨d - 1, by omega⟩
  unfold f_X0_groupOf at hf
  refine E_intro qm_18 qc_18 (Nat.le_of_ble_eq_true rfl) rfl rfl ?_
  show RR d cd_X0_groupOf (0, 0) 0 [.ref o, .int a1, qU, qU, qU] [] h (some (.int v0)) h1
  refine R_I rfl ?_
  refine R_ldI rfl rfl ?_
  refine R_bin rfl ?_
  refine R_stI (ls' := [.ref o, .int a1, .int ((1 : Int32) <<< (a1 &&& 31)), qU, qU]) rfl rfl rfl rfl ?_
  refine R_I rfl ?_
  refine R_stI (ls' := [.ref o, .int a1, .int ((1 : Int32) <<< (a1 &&& 31)), .int (0 : Int32), qU]) rfl rfl rfl rfl ?_
  refine R_drop [true, false, true, true, true] (ls' := [.ref o, qU, .int ((1 : Int32) <<< (a1 &&& 31)), .int (0 : Int32), qU]) rfl ?_
  obtain ⟨⟨x227, h228⟩ | ⟨x224, h225⟩, e226, hf⟩ := qbind_some hf
  · dsimp only at hf
    refine t_X0_groupOf_L6 (N := N) (by omega) _ o ho ((1 : Int32) <<< (a1 &&& 31)) (0 : Int32) h _ e226 _ _ (fun rv rh he => ?_) (fun _ _ he => by cases he)
    cases he
    obtain ⟨rfl, rfl⟩ := qinj2 hf
    exact ⟨rfl, rfl⟩
  · dsimp only at hf
    refine t_X0_groupOf_L6 (N := N) (by omega) _ o ho ((1 : Int32) <<< (a1 &&& 31)) (0 : Int32) h _ e226 _ _ (fun _ _ he => by cases he) (fun z0 z1 he => ?_)
    cases he
    refine R_ldI rfl rfl ?_
    obtain ⟨rfl, rfl⟩ := qinj2 hf
    exact R_retI rfl
def f_X0_countGroups_L6 (N : Nat) (r0 : Nat) : Nat → Int32 → Int32 → Int32 → qN → Option (Int32 × qN)
  | 0, _, _, _, _ => none
  | n + 1, l1, l2, l3, h =>
    if (h r0 5) ≤ l3 then
      some (l1, h)
    else
      qbind (f_X0_isOver r0 l3 h) fun (x231, h230) =>
      qbind (
          if x231 = 0 then
            qbind (f_X0_sidesOf r0 l3 h230) fun (x235, h234) =>
            if (l2 &&& x235) = 0 then
              if l3 < 0 ∨ 12 ≤ l3.toNatClampNeg then none else
              qbind (f_X0_groupOf N r0 (h234 (r0 + 3) l3.toNatClampNeg) h234) fun (x240, h239) =>
              some ((l1 + (1 : Int32)), (l2 ||| x240), h239)
            else
              some (l1, l2, h234)
          else
            some (l1, l2, h230) : Option (Int32 × Int32 × qN)) fun (x242, x243, h244) =>
      f_X0_countGroups_L6 N r0 n x242 x243 (l3 + (1 : Int32)) h244
set_option maxRecDepth 100000 in
theorem t_X0_countGroups_L6 {d N : Nat} (hd : 3 ≤ d) : ∀ (n : Nat) (r0 : Nat) (hr0 : isC r0) (l1 : Int32) (l2 : Int32) (l3 : Int32) (h : qN) (y1 : Int32) (h2 : qN), f_X0_countGroups_L6 N r0 n l1 l2 l3 h = some (y1, h2) → ∀ (v : Option Value) (h1 : qN), RR d cd_X0_countGroups (0, 0) 54 [qU, .int y1, qU, qU] [] h2 v h1 → RR d cd_X0_countGroups (0, 0) 6 [.ref r0, .int l1, .int l2, .int l3] [] h v h1 := by
  intro n
  induction n with
  | zero =>
    intro r0 hr0 l1 l2 l3 h y1 h2 hf v h1 hE
    exact absurd hf (by simp [f_X0_countGroups_L6])
  | succ n ih =>
    intro r0 hr0 l1 l2 l3 h y1 h2 hf v h1 hE
    unfold f_X0_countGroups_L6 at hf
    refine R_ldI rfl rfl ?_
    refine R_ldA rfl rfl ?_
    refine R_get rfl hr0.1 rfl rfl ?_
    rcases qite hf with ⟨c229, hf⟩ | ⟨c229, hf⟩
    · refine R_CmGe_t rfl c229 ?_
      refine R_drop [false, true, false, false] (ls' := [qU, .int l1, qU, qU]) rfl ?_
      obtain ⟨rfl, rfl⟩ := qinj2 hf
      exact hE
    · refine R_CmGe_f rfl c229 ?_
      refine R_ldA rfl rfl ?_
      refine R_ldI rfl rfl ?_
      obtain ⟨⟨x231, h230⟩, e232, hf⟩ := qbind_some hf
      dsimp only at hf
      refine R_callVi (as := [.ref r0, .int l3]) (rest := []) rfl rfl hr0.1 rfl rfl rfl rfl (t_X0_isOver (by omega) r0 l3 hr0 h e232) ?_
      obtain ⟨⟨x242, x243, h244⟩, e245, hf⟩ := qbind_some hf
      dsimp only at hf
      have key : RR d cd_X0_countGroups (0, 0) 48 [.ref r0, .int x242, .int x243, .int l3] [] h244 v h1 := by
        clear e245
        refine R_inc (ls' := [.ref r0, .int x242, .int x243, .int (l3 + (1 : Int32))]) rfl rfl rfl rfl ?_
        refine R_goto rfl ?_
        exact ih r0 hr0 x242 x243 (l3 + (1 : Int32)) h244 _ _ hf _ _ hE
      clear hf
      have hf := e245
      clear e245
      rcases qite hf with ⟨c233, hf⟩ | ⟨c233, hf⟩
      · refine R_IfNe_f rfl c233 ?_
        refine R_ldI rfl rfl ?_
        refine R_ldA rfl rfl ?_
        refine R_ldI rfl rfl ?_
        obtain ⟨⟨x235, h234⟩, e236, hf⟩ := qbind_some hf
        dsimp only at hf
        refine R_callVi (as := [.ref r0, .int l3]) (rest := [.int l2]) rfl rfl hr0.1 rfl rfl rfl rfl (t_X0_sidesOf (by omega) r0 l3 hr0 h230 e236) ?_
        refine R_bin rfl ?_
        rcases qite hf with ⟨c237, hf⟩ | ⟨c237, hf⟩
        · refine R_IfNe_f rfl c237 ?_
          refine R_ldI rfl rfl ?_
          refine R_ldA rfl rfl ?_
          refine R_ldA rfl rfl ?_
          refine R_get rfl hr0.1 rfl rfl ?_
          refine R_ldI rfl rfl ?_
          obtain ⟨c238, hf⟩ := qchk hf
          refine R_ald rfl hr0.2.2.2.1 c238 ?_
          obtain ⟨⟨x240, h239⟩, e241, hf⟩ := qbind_some hf
          dsimp only at hf
          refine R_callVi (as := [.ref r0, .int (h234 (r0 + 3) l3.toNatClampNeg)]) (rest := [.int l2]) rfl rfl hr0.1 rfl rfl rfl rfl (t_X0_groupOf (N := N) (by omega) r0 (h234 (r0 + 3) l3.toNatClampNeg) hr0 h234 e241) ?_
          refine R_bin rfl ?_
          refine R_stI (ls' := [.ref r0, .int l1, .int (l2 ||| x240), .int l3]) rfl rfl rfl rfl ?_
          refine R_inc (ls' := [.ref r0, .int (l1 + (1 : Int32)), .int (l2 ||| x240), .int l3]) rfl rfl rfl rfl ?_
          obtain ⟨rfl, rfl, rfl⟩ := qinj3 hf
          exact key
        · refine R_IfNe_t rfl c237 ?_
          obtain ⟨rfl, rfl, rfl⟩ := qinj3 hf
          exact key
      · refine R_IfNe_t rfl c233 ?_
        obtain ⟨rfl, rfl, rfl⟩ := qinj3 hf
        exact key
def f_X0_countGroups (N : Nat) (o : Nat) (h : qN) : Option (Int32 × qN) :=
  qbind (f_X0_countGroups_L6 N o N (0 : Int32) (0 : Int32) (0 : Int32) h) fun (x247, h248) =>
  some (x247, h248)
set_option maxRecDepth 100000 in
theorem t_X0_countGroups {d N : Nat} (hd : 4 ≤ d) (o : Nat) (ho : isC o) (h : qN) {v0 : Int32} {h1 : qN} (hf : f_X0_countGroups N o h = some (v0, h1)) : EE d 20 [.ref o] h (some (.int v0)) h1 := by
  obtain ⟨d, rfl⟩ : ∃ d0, d = d0 + 1 := ⟨d - 1, by omega⟩
  unfold f_X0_countGroups at hf
  refine E_intro qm_20 qc_20 (Nat.le_of_ble_eq_true rfl) rfl rfl ?_
  show RR d cd_X0_countGroups (0, 0) 0 [.ref o, qU, qU, qU] [] h (some (.int v0)) h1
  refine R_I rfl ?_
  refine R_stI (ls' := [.ref o, .int (0 : Int32), qU, qU]) rfl rfl rfl rfl ?_
  refine R_I rfl ?_
  refine R_stI (ls' := [.ref o, .int (0 : Int32), .int (0 : Int32), qU]) rfl rfl rfl rfl ?_
  refine R_I rfl ?_
  refine R_stI (ls' := [.ref o, .int (0 : Int32), .int (0 : Int32), .int (0 : Int32)]) rfl rfl rfl rfl ?_
  obtain ⟨⟨x247, h248⟩, e249, hf⟩ := qbind_some hf
  dsimp only at hf
  refine t_X0_countGroups_L6 (N := N) (by omega) _ o ho (0 : Int32) (0 : Int32) (0 : Int32) h x247 h248 e249 _ _ ?_
  refine R_ldI rfl rfl ?_
  obtain ⟨rfl, rfl⟩ := qinj2 hf
  exact R_retI rfl
def f_X1_usefulThings_L17 (N : Nat) (l2 : Int32) (l3 : Int32) (r4 : Nat) : Nat → Int32 → Int32 → Int32 → qN → Option ((Int32 × qN) ⊕ (Int32 × Int32 × qN))
  | 0, _, _, _, _ => none
  | n + 1, l5, l6, l7, h =>
    if (h r4 5) ≤ l7 then
      some (.inr (l5, l6, h))
    else
      qbind (f_X0_isOver r4 l7 h) fun (x255, h254) =>
      if x255 = 0 then
        if ((l3 >>> (l7 &&& 31)) &&& (1 : Int32)) = 0 then
          qbind (f_X0_sidesOf r4 l7 h254) fun (x260, h259) =>
          if (x260 &&& (255 : Int32)) = 0 then
            some (.inl ((0 : Int32), h259))
          else
            f_X1_usefulThings_L17 N l2 l3 r4 n (l5 ||| (x260 &&& (255 : Int32))) (l6 &&& (x260 &&& (255 : Int32))) (l7 + (1 : Int32)) h259
        else
          f_X1_usefulThings_L17 N l2 l3 r4 n l5 l6 (l7 + (1 : Int32)) h254
      else
        f_X1_usefulThings_L17 N l2 l3 r4 n l5 l6 (l7 + (1 : Int32)) h254
set_option maxRecDepth 100000 in
theorem t_X1_usefulThings_L17 {d N : Nat} (hd : 1 ≤ d) : ∀ (n : Nat) (l2 : Int32) (l3 : Int32) (r4 : Nat) (hr4 : isC r4) (l5 : Int32) (l6 : Int32) (l7 : Int32) (h : qN) (res : (Int32 × qN) ⊕ (Int32 × Int32 × qN)), f_X1_usefulThings_L17 N l2 l3 r4 n l5 l6 l7 h = some res → ∀ (v : Option Value) (h1 : qN), (∀ (rv : Int32) (rh : qN), res = .inl (rv, rh) → v = some (.int rv) ∧ h1 = rh) → (∀ (y5 : Int32) (y6 : Int32) (h2 : qN), res = .inr (y5, y6, h2) → RR d cd_X1_usefulThings (0, 0) 86 [qU, qU, .int l2, qU, qU, .int y5, .int y6, qU, qU] [] h2 v h1) → RR d cd_X1_usefulThings (0, 0) 17 [qU, qU, .int l2, .int l3, .ref r4, .int l5, .int l6, .int l7, qU] [] h v h1 := by
  intro n
  induction n with
  | zero =>
    intro l2 l3 r4 hr4 l5 l6 l7 h res hf v h1 hR hE
    exact absurd hf (by simp [f_X1_usefulThings_L17])
  | succ n ih =>
    intro l2 l3 r4 hr4 l5 l6 l7 h res hf v h1 hR hE
    unfold f_X1_usefulThings_L17 at hf
    refine R_ldI rfl rfl ?_
    refine R_ldA rfl rfl ?_
    refine R_get rfl hr4.1 rfl rfl ?_
    rcases qite hf with ⟨c253, hf⟩ | ⟨c253, hf⟩
    · refine R_CmGe_t rfl c253 ?_
      refine R_drop [true, true, true, false, false, true, true, false, true] (ls' := [qU, qU, .int l2, qU, qU, .int l5, .int l6, qU, qU]) rfl ?_
      obtain rfl := Option.some.inj hf
      exact hE _ _ _ rfl
    · refine R_CmGe_f rfl c253 ?_
      refine R_ldA rfl rfl ?_
      refine R_ldI rfl rfl ?_
      obtain ⟨⟨x255, h254⟩, e256, hf⟩ := qbind_some hf
      dsimp only at hf
      refine R_callVi (as := [.ref r4, .int l7]) (rest := []) rfl rfl hr4.1 rfl rfl rfl rfl (t_X0_isOver (by omega) r4 l7 hr4 h e256) ?_
      rcases qite hf with ⟨c257, hf⟩ | ⟨c257, hf⟩
      · refine R_IfNe_f rfl c257 ?_
        refine R_ldI rfl rfl ?_
        refine R_ldI rfl rfl ?_
        refine R_bin rfl ?_
        refine R_I rfl ?_
        refine R_bin rfl ?_
        rcases qite hf with ⟨c258, hf⟩ | ⟨c258, hf⟩
        · refine R_IfNe_f rfl c258 ?_
          refine R_ldA rfl rfl ?_
          refine R_ldI rfl rfl ?_
          obtain ⟨⟨x260, h259⟩, e261, hf⟩ := qbind_some hf
          dsimp only at hf
          refine R_callVi (as := [.ref r4, .int l7]) (rest := []) rfl rfl hr4.1 rfl rfl rfl rfl (t_X0_sidesOf (by omega) r4 l7 hr4 h254 e261) ?_
          refine R_I rfl ?_
          refine R_bin rfl ?_
          refine R_stI (ls' := [qU, qU, .int l2, .int l3, .ref r4, .int l5, .int l6, .int l7, .int (x260 &&& (255 : Int32))]) rfl rfl rfl rfl ?_
          refine R_ldI rfl rfl ?_
          rcases qite hf with ⟨c262, hf⟩ | ⟨c262, hf⟩
          · refine R_IfNe_f rfl c262 ?_
            refine R_I rfl ?_
            obtain rfl := Option.some.inj hf
            obtain ⟨rfl, rfl⟩ := hR _ _ rfl
            exact R_retI rfl
          · refine R_IfNe_t rfl c262 ?_
            refine R_ldI rfl rfl ?_
            refine R_ldI rfl rfl ?_
            refine R_bin rfl ?_
            refine R_stI (ls' := [qU, qU, .int l2, .int l3, .ref r4, .int (l5 ||| (x260 &&& (255 : Int32))), .int l6, .int l7, .int (x260 &&& (255 : Int32))]) rfl rfl rfl rfl ?_
            refine R_ldI rfl rfl ?_
            refine R_ldI rfl rfl ?_
            refine R_bin rfl ?_
            refine R_stI (ls' := [qU, qU, .int l2, .int l3, .ref r4, .int (l5 ||| (x260 &&& (255 : Int32))), .int (l6 &&& (x260 &&& (255 : Int32))), .int l7, .int (x260 &&& (255 : Int32))]) rfl rfl rfl rfl ?_
            refine R_inc (ls' := [qU, qU, .int l2, .int l3, .ref r4, .int (l5 ||| (x260 &&& (255 : Int32))), .int (l6 &&& (x260 &&& (255 : Int32))), .int (l7 + (1 : Int32)), .int (x260 &&& (255 : Int32))]) rfl rfl rfl rfl ?_
            refine R_goto rfl ?_
            refine R_drop [true, true, true, true, true, true, true, true, false] (ls' := [qU, qU, .int l2, .int l3, .ref r4, .int (l5 ||| (x260 &&& (255 : Int32))), .int (l6 &&& (x260 &&& (255 : Int32))), .int (l7 + (1 : Int32)), qU]) rfl ?_
            exact ih l2 l3 r4 hr4 (l5 ||| (x260 &&& (255 : Int32))) (l6 &&& (x260 &&& (255 : Int32))) (l7 + (1 : Int32)) h259 _ hf _ _ hR hE
        · refine R_IfNe_t rfl c258 ?_
          refine R_inc (ls' := [qU, qU, .int l2, .int l3, .ref r4, .int l5, .int l6, .int (l7 + (1 : Int32)), qU]) rfl rfl rfl rfl ?_
          refine R_goto rfl ?_
          exact ih l2 l3 r4 hr4 l5 l6 (l7 + (1 : Int32)) h254 _ hf _ _ hR hE
      · refine R_IfNe_t rfl c257 ?_
        refine R_inc (ls' := [qU, qU, .int l2, .int l3, .ref r4, .int l5, .int l6, .int (l7 + (1 : Int32)), qU]) rfl rfl rfl rfl ?_
        refine R_goto rfl ?_
        exact ih l2 l3 r4 hr4 l5 l6 (l7 + (1 : Int32)) h254 _ hf _ _ hR hE
def f_X1_usefulThings (N : Nat) (a1 : Int32) (a2 : Int32) (a3 : Int32) (h : qN) : Option (Int32 × qN) :=
  if a1 < 0 ∨ 4 ≤ a1.toNatClampNeg then none else
  qbind (f_X1_usefulThings_L17 N a2 a3 (28 + 5 * a1.toNatClampNeg) N (0 : Int32) (-1 : Int32) (0 : Int32) h) fun
    | .inl (x269, h270) => some (x269, h270)
    | .inr (x264, x265, h266) =>
      if a2 = (1 : Int32) then
        some ((x264 &&& x265), h266)
      else
        some (x264, h266)
set_option maxRecDepth 100000 in
theorem t_X1_usefulThings {d N : Nat} (hd : 2 ≤ d) (a1 : Int32) (a2 : Int32) (a3 : Int32)  (h : qN) {v0 : Int32} {h1 : qN} (hf : f_X1_usefulThings N a1 a2 a3 h = some (v0, h1)) : EE d 24 [.ref 24, .int a1, .int a2, .int a3] h (some (.int v0)) h1 := by
  obtain ⟨d, rfl⟩ : ∃ d0, d = d0 + 1 := ⟨d - 1, by omega⟩
  unfold f_X1_usefulThings at hf
  refine E_intro qm_24 qc_24 (Nat.le_of_ble_eq_true rfl) rfl rfl ?_
  show RR d cd_X1_usefulThings (0, 0) 0 [.ref 24, .int a1, .int a2, .int a3, qU, qU, qU, qU, qU] [] h (some (.int v0)) h1
  refine R_ldA rfl rfl ?_
  refine R_get rfl sh_24 rfl rfl ?_
  refine R_ldI rfl rfl ?_
  obtain ⟨c252, hf⟩ := qchk hf
  refine R_aald rfl sh_25 c252 (isC_st c252).2 ?_
  refine R_stA (ls' := [.ref 24, .int a1, .int a2, .int a3, .ref (28 + 5 * a1.toNatClampNeg), qU, qU, qU, qU]) rfl rfl rfl rfl ?_
  refine R_I rfl ?_
  refine R_stI (ls' := [.ref 24, .int a1, .int a2, .int a3, .ref (28 + 5 * a1.toNatClampNeg), .int (0 : Int32), qU, qU, qU]) rfl rfl rfl rfl ?_
  refine R_I rfl ?_
  refine R_stI (ls' := [.ref 24, .int a1, .int a2, .int a3, .ref (28 + 5 * a1.toNatClampNeg), .int (0 : Int32), .int (-1 : Int32), qU, qU]) rfl rfl rfl rfl ?_
  refine R_I rfl ?_
  refine R_stI (ls' := [.ref 24, .int a1, .int a2, .int a3, .ref (28 + 5 * a1.toNatClampNeg), .int (0 : Int32), .int (-1 : Int32), .int (0 : Int32), qU]) rfl rfl rfl rfl ?_
  refine R_drop [false, false, true, true, true, true, true, true, true] (ls' := [qU, qU, .int a2, .int a3, .ref (28 + 5 * a1.toNatClampNeg), .int (0 : Int32), .int (-1 : Int32), .int (0 : Int32), qU]) rfl ?_
  obtain ⟨⟨x269, h270⟩ | ⟨x264, x265, h266⟩, e267, hf⟩ := qbind_some hf
  · dsimp only at hf
    refine t_X1_usefulThings_L17 (N := N) (by omega) _ a2 a3 (28 + 5 * a1.toNatClampNeg) (isC_st c252).1 (0 : Int32) (-1 : Int32) (0 : Int32) h _ e267 _ _ (fun rv rh he => ?_) (fun _ _ _ he => by cases he)
    cases he
    obtain ⟨rfl, rfl⟩ := qinj2 hf
    exact ⟨rfl, rfl⟩
  · dsimp only at hf
    refine t_X1_usefulThings_L17 (N := N) (by omega) _ a2 a3 (28 + 5 * a1.toNatClampNeg) (isC_st c252).1 (0 : Int32) (-1 : Int32) (0 : Int32) h _ e267 _ _ (fun _ _ he => by cases he) (fun z0 z1 z2 he => ?_)
    cases he
    refine R_ldI rfl rfl ?_
    refine R_I rfl ?_
    rcases qite hf with ⟨c268, hf⟩ | ⟨c268, hf⟩
    · refine R_CmNe_f rfl c268 ?_
      refine R_ldI rfl rfl ?_
      refine R_ldI rfl rfl ?_
      refine R_bin rfl ?_
      refine R_goto rfl ?_
      obtain ⟨rfl, rfl⟩ := qinj2 hf
      exact R_retI rfl
    · refine R_CmNe_t rfl c268 ?_
      refine R_ldI rfl rfl ?_
      obtain ⟨rfl, rfl⟩ := qinj2 hf
      exact R_retI rfl
def f_X1_step (N : Nat) (a1 : Int32) (a2 : Int32) (a3 : Int32) (h : qN) : Option (Int32 × qN) :=
  if a1 < 0 ∨ 4 ≤ a1.toNatClampNeg then none else
  if a2 < 0 ∨ 8 ≤ a2.toNatClampNeg then none else
  if (h ((28 + 5 * a1.toNatClampNeg) + 2) a2.toNatClampNeg) = a3 then
    some ((0 : Int32), h)
  else
    if (a1 + (1 : Int32)) < 0 ∨ 4 ≤ (a1 + (1 : Int32)).toNatClampNeg then none else
    qbind (f_X0_become (28 + 5 * (a1 + (1 : Int32)).toNatClampNeg) (28 + 5 * a1.toNatClampNeg) h) fun h275 =>
    if (a1 + (1 : Int32)) < 0 ∨ 4 ≤ (a1 + (1 : Int32)).toNatClampNeg then none else
    qbind (f_X0_move N (28 + 5 * (a1 + (1 : Int32)).toNatClampNeg) a2 a3 h275) fun (x279, h278) =>
    if a1 < 0 ∨ 3 ≤ a1.toNatClampNeg then none else
    some ((1 : Int32), (qup h278 26 a1.toNatClampNeg (((10 : Int32) * a2) + a3)))
set_option maxRecDepth 100000 in
theorem t_X1_step {d N : Nat} (hd : 4 ≤ d) (a1 : Int32) (a2 : Int32) (a3 : Int32)  (h : qN) {v0 : Int32} {h1 : qN} (hf : f_X1_step N a1 a2 a3 h = some (v0, h1)) : EE d 25 [.ref 24, .int a1, .int a2, .int a3] h (some (.int v0)) h1 := by
  obtain ⟨d, rfl⟩ : ∃ d0, d = d0 + 1 := ⟨d - 1, by omega⟩
  unfold f_X1_step at hf
  refine E_intro qm_25 qc_25 (Nat.le_of_ble_eq_true rfl) rfl rfl ?_
  show RR d cd_X1_step (0, 0) 0 [.ref 24, .int a1, .int a2, .int a3, qU] [] h (some (.int v0)) h1
  refine R_ldA rfl rfl ?_
  refine R_get rfl sh_24 rfl rfl ?_
  refine R_ldI rfl rfl ?_
  obtain ⟨c271, hf⟩ := qchk hf
  refine R_aald rfl sh_25 c271 (isC_st c271).2 ?_
  refine R_stA (ls' := [.ref 24, .int a1, .int a2, .int a3, .ref (28 + 5 * a1.toNatClampNeg)]) rfl rfl rfl rfl ?_
  refine R_ldA rfl rfl ?_
  refine R_get rfl (isC_st c271).1.1 rfl rfl ?_
  refine R_ldI rfl rfl ?_
  obtain ⟨c272, hf⟩ := qchk hf
  refine R_ald rfl (isC_st c271).1.2.2.1 c272 ?_
  refine R_ldI rfl rfl ?_
  rcases qite hf with ⟨c273, hf⟩ | ⟨c273, hf⟩
  · refine R_CmNe_f rfl c273 ?_
    refine R_I rfl ?_
    obtain ⟨rfl, rfl⟩ := qinj2 hf
    exact R_retZ rfl (by decide)
  · refine R_CmNe_t rfl c273 ?_
    refine R_ldA rfl rfl ?_
    refine R_get rfl sh_24 rfl rfl ?_
    refine R_ldI rfl rfl ?_
    refine R_I rfl ?_
    refine R_bin rfl ?_
    obtain ⟨c274, hf⟩ := qchk hf
    refine R_aald rfl sh_25 c274 (isC_st c274).2 ?_
    refine R_ldA rfl rfl ?_
    obtain ⟨h275, e276, hf⟩ := qbind_some hf
    refine R_callVv (as := [.ref (28 + 5 * (a1 + (1 : Int32)).toNatClampNeg), .ref (28 + 5 * a1.toNatClampNeg)]) (rest := []) rfl rfl (isC_st c274).1.1 rfl rfl rfl rfl (t_X0_become (by omega) (28 + 5 * (a1 + (1 : Int32)).toNatClampNeg) (28 + 5 * a1.toNatClampNeg) (isC_st c274).1 (isC_st c271).1 h e276) ?_
    refine R_ldA rfl rfl ?_
    refine R_get rfl sh_24 rfl rfl ?_
    refine R_ldI rfl rfl ?_
    refine R_I rfl ?_
    refine R_bin rfl ?_
    obtain ⟨c277, hf⟩ := qchk hf
    refine R_aald rfl sh_25 c277 (isC_st c277).2 ?_
    refine R_ldI rfl rfl ?_
    refine R_ldI rfl rfl ?_
    obtain ⟨⟨x279, h278⟩, e280, hf⟩ := qbind_some hf
    dsimp only at hf
    refine R_callVi (as := [.ref (28 + 5 * (a1 + (1 : Int32)).toNatClampNeg), .int a2, .int a3]) (rest := []) rfl rfl (isC_st c277).1.1 rfl rfl rfl rfl (t_X0_move (N := N) (by omega) (28 + 5 * (a1 + (1 : Int32)).toNatClampNeg) a2 a3 (isC_st c277).1 h275 e280) ?_
    refine R_pop rfl rfl ?_
    refine R_ldA rfl rfl ?_
    refine R_get rfl sh_24 rfl rfl ?_
    refine R_ldI rfl rfl ?_
    refine R_I rfl ?_
    refine R_ldI rfl rfl ?_
    refine R_bin rfl ?_
    refine R_ldI rfl rfl ?_
    refine R_bin rfl ?_
    obtain ⟨c281, hf⟩ := qchk hf
    refine R_ast rfl sh_26 c281 ?_
    refine R_I rfl ?_
    obtain ⟨rfl, rfl⟩ := qinj2 hf
    exact R_retZ rfl (by decide)
def f_X1_endsAll_L59 (N : Nat) (rec : Int32 → Int32 → Int32 → qN → Option (Int32 × qN)) (l1 : Int32) (l2 : Int32) (l3 : Int32) (l4 : Int32) (l5 : Int32) : Nat → Int32 → qN → Option ((Int32 × qN) ⊕ (qN))
  | 0, _, _ => none
  | n + 1, l6, h =>
    if (6 : Int32) ≤ l6 then
      some (.inr h)
    else
      if ((l4 >>> (l5 &&& 31)) &&& (1 : Int32)) = (1 : Int32) then
        qbind (f_X1_step N l1 l5 l6 h) fun (x293, h292) =>
        if x293 = 0 then
          f_X1_endsAll_L59 N rec l1 l2 l3 l4 l5 n (l6 + (1 : Int32)) h292
        else
          qbind (rec (l1 + (1 : Int32)) (l2 - (1 : Int32)) l3 h292) fun (x297, h296) =>
          if x297 = 0 then
            f_X1_endsAll_L59 N rec l1 l2 l3 l4 l5 n (l6 + (1 : Int32)) h296
          else
            some (.inl ((1 : Int32), h296))
      else
        some (.inr h)
set_option maxRecDepth 100000 in
theorem t_X1_endsAll_L59 {d N : Nat} {rec : Int32 → Int32 → Int32 → qN → Option (Int32 × qN)} (hrec : ∀ (a1 : Int32) (a2 : Int32) (a3 : Int32)  (h : qN) (v : Int32) (h2 : qN), rec a1 a2 a3 h = some (v, h2) → EE d 23 [.ref 24, .int a1, .int a2, .int a3] h (some (.int v)) h2) (hd : 4 ≤ d) : ∀ (n : Nat) (l1 : Int32) (l2 : Int32) (l3 : Int32) (l4 : Int32) (l5 : Int32) (l6 : Int32) (h : qN) (res : (Int32 × qN) ⊕ (qN)), f_X1_endsAll_L59 N rec l1 l2 l3 l4 l5 n l6 h = some res → ∀ (v : Option Value) (h1 : qN), (∀ (rv : Int32) (rh : qN), res = .inl (rv, rh) → v = some (.int rv) ∧ h1 = rh) → (∀ (h2 : qN), res = .inr h2 → RR d cd_X1_endsAll (0, 0) 111 [.ref 24, .int l1, .int l2, .int l3, .int l4, .int l5, qU] [] h2 v h1) → RR d cd_X1_endsAll (0, 0) 59 [.ref 24, .int l1, .int l2, .int l3, .int l4, .int l5, .int l6] [] h v h1 := by
  intro n
  induction n with
  | zero =>
    intro l1 l2 l3 l4 l5 l6 h res hf v h1 hR hE
    exact absurd hf (by simp [f_X1_endsAll_L59])
  | succ n ih =>
    intro l1 l2 l3 l4 l5 l6 h res hf v h1 hR hE
    unfold f_X1_endsAll_L59 at hf
    refine R_ldI rfl rfl ?_
    refine R_I rfl ?_
    rcases qite hf with ⟨c290, hf⟩ | ⟨c290, hf⟩
    · refine R_CmGe_t rfl c290 ?_
      refine R_drop [true, true, true, true, true, true, false] (ls' := [.ref 24, .int l1, .int l2, .int l3, .int l4, .int l5, qU]) rfl ?_
      obtain rfl := Option.some.inj hf
      exact hE _ rfl
    · refine R_CmGe_f rfl c290 ?_
      refine R_ldI rfl rfl ?_
      refine R_ldI rfl rfl ?_
      refine R_bin rfl ?_
      refine R_I rfl ?_
      refine R_bin rfl ?_
      refine R_I rfl ?_
      rcases qite hf with ⟨c291, hf⟩ | ⟨c291, hf⟩
      · refine R_CmNe_f rfl c291 ?_
        refine R_ldA rfl rfl ?_
        refine R_ldI rfl rfl ?_
        refine R_ldI rfl rfl ?_
        refine R_ldI rfl rfl ?_
        obtain ⟨⟨x293, h292⟩, e294, hf⟩ := qbind_some hf
        dsimp only at hf
        refine R_callVi (as := [.ref 24, .int l1, .int l5, .int l6]) (rest := []) rfl rfl sh_24 rfl rfl rfl rfl (t_X1_step (N := N) (by omega) l1 l5 l6 h e294) ?_
        rcases qite hf with ⟨c295, hf⟩ | ⟨c295, hf⟩
        · refine R_IfEq_t rfl c295 ?_
          refine R_inc (ls' := [.ref 24, .int l1, .int l2, .int l3, .int l4, .int l5, .int (l6 + (1 : Int32))]) rfl rfl rfl rfl ?_
          refine R_goto rfl ?_
          exact ih l1 l2 l3 l4 l5 (l6 + (1 : Int32)) h292 _ hf _ _ hR hE
        · refine R_IfEq_f rfl c295 ?_
          refine R_ldA rfl rfl ?_
          refine R_ldI rfl rfl ?_
          refine R_I rfl ?_
          refine R_bin rfl ?_
          refine R_ldI rfl rfl ?_
          refine R_I rfl ?_
          refine R_bin rfl ?_
          refine R_ldI rfl rfl ?_
          obtain ⟨⟨x297, h296⟩, e298, hf⟩ := qbind_some hf
          dsimp only at hf
          refine R_callSi (as := [.ref 24, .int (l1 + (1 : Int32)), .int (l2 - (1 : Int32)), .int l3]) (rest := []) rfl rfl rfl rfl rfl rfl (hrec (l1 + (1 : Int32)) (l2 - (1 : Int32)) l3 h292 _ _ e298) ?_
          rcases qite hf with ⟨c299, hf⟩ | ⟨c299, hf⟩
          · refine R_IfEq_t rfl c299 ?_
            refine R_inc (ls' := [.ref 24, .int l1, .int l2, .int l3, .int l4, .int l5, .int (l6 + (1 : Int32))]) rfl rfl rfl rfl ?_
            refine R_goto rfl ?_
            exact ih l1 l2 l3 l4 l5 (l6 + (1 : Int32)) h296 _ hf _ _ hR hE
          · refine R_IfEq_f rfl c299 ?_
            refine R_I rfl ?_
            obtain rfl := Option.some.inj hf
            obtain ⟨rfl, rfl⟩ := hR _ _ rfl
            exact R_retZ rfl (by decide)
      · refine R_CmNe_t rfl c291 ?_
        refine R_drop [true, true, true, true, true, true, false] (ls' := [.ref 24, .int l1, .int l2, .int l3, .int l4, .int l5, qU]) rfl ?_
        obtain rfl := Option.some.inj hf
        exact hE _ rfl
def f_X1_endsAll_L49 (N : Nat) (rec : Int32 → Int32 → Int32 → qN → Option (Int32 × qN)) (l1 : Int32) (l2 : Int32) (l3 : Int32) (l4 : Int32) : Nat → Int32 → qN → Option ((Int32 × qN) ⊕ (qN))
  | 0, _, _ => none
  | n + 1, l5, h =>
    if (8 : Int32) ≤ l5 then
      some (.inr h)
    else
      qbind (f_X1_endsAll_L59 N rec l1 l2 l3 l4 l5 N (0 : Int32) h) fun
        | .inl (x303, h304) => some (.inl (x303, h304))
        | .inr h301 =>
          f_X1_endsAll_L49 N rec l1 l2 l3 l4 n (l5 + (1 : Int32)) h301
set_option maxRecDepth 100000 in
theorem t_X1_endsAll_L49 {d N : Nat} {rec : Int32 → Int32 → Int32 → qN → Option (Int32 × qN)} (hrec : ∀ (a1 : Int32) (a2 : Int32) (a3 : Int32)  (h : qN) (v : Int32) (h2 : qN), rec a1 a2 a3 h = some (v, h2) → EE d 23 [.ref 24, .int a1, .int a2, .int a3] h (some (.int v)) h2) (hd : 4 ≤ d) : ∀ (n : Nat) (l1 : Int32) (l2 : Int32) (l3 : Int32) (l4 : Int32) (l5 : Int32) (h : qN) (res : (Int32 × qN) ⊕ (qN)), f_X1_endsAll_L49 N rec l1 l2 l3 l4 n l5 h = some res → ∀ (v : Option Value) (h1 : qN), (∀ (rv : Int32) (rh : qN), res = .inl (rv, rh) → v = some (.int rv) ∧ h1 = rh) → (∀ (h2 : qN), res = .inr h2 → RR d cd_X1_endsAll (0, 0) 117 [qU, qU, qU, qU, qU, qU, qU] [] h2 v h1) → RR d cd_X1_endsAll (0, 0) 49 [.ref 24, .int l1, .int l2, .int l3, .int l4, .int l5, qU] [] h v h1 := by
  intro n
  induction n with
  | zero =>
    intro l1 l2 l3 l4 l5 h res hf v h1 hR hE
    exact absurd hf (by simp [f_X1_endsAll_L49])
  | succ n ih =>
    intro l1 l2 l3 l4 l5 h res hf v h1 hR hE
    unfold f_X1_endsAll_L49 at hf
    refine R_ldI rfl rfl ?_
    refine R_I rfl ?_
    rcases qite hf with ⟨c289, hf⟩ | ⟨c289, hf⟩
    · refine R_CmGe_t rfl c289 ?_
      refine R_drop [false, false, false, false, false, false, true] (ls' := [qU, qU, qU, qU, qU, qU, qU]) rfl ?_
      obtain rfl := Option.some.inj hf
      exact hE _ rfl
    · refine R_CmGe_f rfl c289 ?_
      refine R_I rfl ?_
      refine R_stI (ls' := [.ref 24, .int l1, .int l2, .int l3, .int l4, .int l5, .int (0 : Int32)]) rfl rfl rfl rfl ?_
      obtain ⟨⟨x303, h304⟩ | h301, e302, hf⟩ := qbind_some hf
      · dsimp only at hf
        refine t_X1_endsAll_L59 (N := N) (rec := rec) hrec (by omega) _ l1 l2 l3 l4 l5 (0 : Int32) h _ e302 _ _ (fun rv rh he => ?_) (fun _ he => by cases he)
        cases he
        obtain rfl := Option.some.inj hf
        exact hR _ _ rfl
      · dsimp only at hf
        refine t_X1_endsAll_L59 (N := N) (rec := rec) hrec (by omega) _ l1 l2 l3 l4 l5 (0 : Int32) h _ e302 _ _ (fun _ _ he => by cases he) (fun z0 he => ?_)
        cases he
        refine R_inc (ls' := [.ref 24, .int l1, .int l2, .int l3, .int l4, .int (l5 + (1 : Int32)), qU]) rfl rfl rfl rfl ?_
        refine R_goto rfl ?_
        exact ih l1 l2 l3 l4 (l5 + (1 : Int32)) h301 _ hf _ _ hR hE
def f_X1_endsAll (N : Nat) : Nat → Int32 → Int32 → Int32 → qN → Option (Int32 × qN)
  | 0, _, _, _, _ => none
  | n + 1, a1, a2, a3, h =>
    if a2 = 0 then
      if a1 < 0 ∨ 4 ≤ a1.toNatClampNeg then none else
      if a1 < 0 ∨ 4 ≤ a1.toNatClampNeg then none else
      if ((h (28 + 5 * a1.toNatClampNeg) 6) ||| a3) = (((1 : Int32) <<< ((h (28 + 5 * a1.toNatClampNeg) 5) &&& 31)) - (1 : Int32)) then
        some ((1 : Int32), h)
      else
        some ((0 : Int32), h)
    else
      qbind (f_X1_usefulThings N a1 a2 a3 h) fun (x287, h286) =>
      qbind (f_X1_endsAll_L49 N (f_X1_endsAll N n) a1 a2 a3 x287 N (0 : Int32) h286) fun
        | .inl (x308, h309) => some (x308, h309)
        | .inr h306 =>
          some ((0 : Int32), h306)
set_option maxRecDepth 100000 in
theorem t_X1_endsAll {N : Nat} : ∀ {n d : Nat} (hd : 5 + n ≤ d) (a1 : Int32) (a2 : Int32) (a3 : Int32)  (h : qN) (v0 : Int32) (h1 : qN), f_X1_endsAll N n a1 a2 a3 h = some (v0, h1) → EE d 23 [.ref 24, .int a1, .int a2, .int a3] h (some (.int v0)) h1 := by
  intro n
  induction n with
  | zero =>
    intro d hd a1 a2 a3 h v0 h1 hf
    exact absurd hf (by simp [f_X1_endsAll])
  | succ n ih =>
    intro d hd a1 a2 a3 h v0 h1 hf
    obtain ⟨d, rfl⟩ : ∃ d0, d = d0 + 1 := ⟨d - 1, by omega⟩
    unfold f_X1_endsAll at hf
    have hrec : ∀ (a1 : Int32) (a2 : Int32) (a3 : Int32)  (h : qN) (v : Int32) (h2 : qN), f_X1_endsAll N n a1 a2 a3 h = some (v, h2) → EE d 23 [.ref 24, .int a1, .int a2, .int a3] h (some (.int v)) h2 := fun a1 a2 a3 h v h2 he => ih (d := d) (by omega) a1 a2 a3 h v h2 he
    refine E_intro qm_23 qc_23 (Nat.le_of_ble_eq_true rfl) rfl rfl ?_
    show RR d cd_X1_endsAll (0, 0) 0 [.ref 24, .int a1, .int a2, .int a3, qU, qU, qU] [] h (some (.int v0)) h1
    refine R_ldI rfl rfl ?_
    rcases qite hf with ⟨c282, hf⟩ | ⟨c282, hf⟩
    · refine R_IfNe_f rfl c282 ?_
      refine R_ldA rfl rfl ?_
      refine R_get rfl sh_24 rfl rfl ?_
      refine R_ldI rfl rfl ?_
      obtain ⟨c283, hf⟩ := qchk hf
      refine R_aald rfl sh_25 c283 (isC_st c283).2 ?_
      refine R_get rfl (isC_st c283).1.1 rfl rfl ?_
      refine R_ldI rfl rfl ?_
      refine R_bin rfl ?_
      refine R_I rfl ?_
      refine R_ldA rfl rfl ?_
      refine R_get rfl sh_24 rfl rfl ?_
      refine R_ldI rfl rfl ?_
      obtain ⟨c284, hf⟩ := qchk hf
      refine R_aald rfl sh_25 c284 (isC_st c284).2 ?_
      refine R_get rfl (isC_st c284).1.1 rfl rfl ?_
      refine R_bin rfl ?_
      refine R_I rfl ?_
      refine R_bin rfl ?_
      rcases qite hf with ⟨c285, hf⟩ | ⟨c285, hf⟩
      · refine R_CmNe_f rfl c285 ?_
        refine R_I rfl ?_
        refine R_goto rfl ?_
        obtain ⟨rfl, rfl⟩ := qinj2 hf
        exact R_retZ rfl (by decide)
      · refine R_CmNe_t rfl c285 ?_
        refine R_I rfl ?_
        obtain ⟨rfl, rfl⟩ := qinj2 hf
        exact R_retZ rfl (by decide)
    · refine R_IfNe_t rfl c282 ?_
      refine R_ldA rfl rfl ?_
      refine R_ldI rfl rfl ?_
      refine R_ldI rfl rfl ?_
      refine R_ldI rfl rfl ?_
      obtain ⟨⟨x287, h286⟩, e288, hf⟩ := qbind_some hf
      dsimp only at hf
      refine R_callVi (as := [.ref 24, .int a1, .int a2, .int a3]) (rest := []) rfl rfl sh_24 rfl rfl rfl rfl (t_X1_usefulThings (N := N) (by omega) a1 a2 a3 h e288) ?_
      refine R_stI (ls' := [.ref 24, .int a1, .int a2, .int a3, .int x287, qU, qU]) rfl rfl rfl rfl ?_
      refine R_I rfl ?_
      refine R_stI (ls' := [.ref 24, .int a1, .int a2, .int a3, .int x287, .int (0 : Int32), qU]) rfl rfl rfl rfl ?_
      obtain ⟨⟨x308, h309⟩ | h306, e307, hf⟩ := qbind_some hf
      · dsimp only at hf
        refine t_X1_endsAll_L49 (N := N) (rec := f_X1_endsAll N n) hrec (by omega) _ a1 a2 a3 x287 (0 : Int32) h286 _ e307 _ _ (fun rv rh he => ?_) (fun _ he => by cases he)
        cases he
        obtain ⟨rfl, rfl⟩ := qinj2 hf
        exact ⟨rfl, rfl⟩
      · dsimp only at hf
        refine t_X1_endsAll_L49 (N := N) (rec := f_X1_endsAll N n) hrec (by omega) _ a1 a2 a3 x287 (0 : Int32) h286 _ e307 _ _ (fun _ _ he => by cases he) (fun z0 he => ?_)
        cases he
        refine R_I rfl ?_
        obtain ⟨rfl, rfl⟩ := qinj2 hf
        exact R_retZ rfl (by decide)
