noncomputable def c_Sums_init (a0 : Nat) (h : dzH) : Option dzH := dzRV (dzC 0 [.ref a0] h)
noncomputable def c_Tape_init (a0 : Nat) (h : dzH) : Option dzH := dzRV (dzC 1 [.ref a0] h)
noncomputable def c_Lines_init (a0 : Nat) (h : dzH) : Option dzH := dzRV (dzC 2 [.ref a0] h)
noncomputable def c_Trial_init (a0 : Nat) (a1 : Nat) (h : dzH) : Option dzH := dzRV (dzC 3 [.ref a0, .ref a1] h)
noncomputable def c_Factors_init (a0 : Nat) (h : dzH) : Option dzH := dzRV (dzC 4 [.ref a0] h)
noncomputable def c_Checker_init (a0 : Nat) (a1 : Nat) (a2 : Nat) (a3 : Nat) (a4 : Nat) (h : dzH) : Option dzH := dzRV (dzC 5 [.ref a0, .ref a1, .ref a2, .ref a3, .ref a4] h)
noncomputable def c_Maker_init (a0 : Nat) (a1 : Nat) (a2 : Nat) (a3 : Nat) (a4 : Nat) (h : dzH) : Option dzH := dzRV (dzC 6 [.ref a0, .ref a1, .ref a2, .ref a3, .ref a4] h)
noncomputable def c_P_init (a0 : Nat) (h : dzH) : Option dzH := dzRV (dzC 7 [.ref a0] h)
noncomputable def c_P_isRegister (i0 : Int32) (h : dzH) : Option (Int32 × dzH) := dzRI (dzC 8 [.int i0] h)
noncomputable def c_P_isWord (i0 : Int32) (h : dzH) : Option (Int32 × dzH) := dzRI (dzC 9 [.int i0] h)
noncomputable def c_P_put (a0 : Nat) (i1 : Int32) (i2 : Int32) (i3 : Int32) (h : dzH) : Option (Int32 × dzH) := dzRI (dzC 10 [.ref a0, .int i1, .int i2, .int i3] h)
noncomputable def c_P_get (a0 : Nat) (i1 : Int32) (i2 : Int32) (h : dzH) : Option (Int32 × dzH) := dzRI (dzC 11 [.ref a0, .int i1, .int i2] h)
noncomputable def c_P_areRegisters (i0 : Int32) (i1 : Int32) (i2 : Int32) (h : dzH) : Option (Int32 × dzH) := dzRI (dzC 12 [.int i0, .int i1, .int i2] h)
noncomputable def c_Sums_sum (a0 : Nat) (a1 : Nat) (a2 : Nat) (h : dzH) : Option (Int32 × dzH) := dzRI (dzC 13 [.ref a0, .ref a1, .ref a2] h)
noncomputable def c_Sums_copy (a0 : Nat) (a1 : Nat) (h : dzH) : Option dzH := dzRV (dzC 14 [.ref a0, .ref a1] h)
noncomputable def c_P_keepAnswer (a0 : Nat) (i1 : Int32) (h : dzH) : Option (Int32 × dzH) := dzRI (dzC 15 [.ref a0, .int i1] h)
noncomputable def c_P_add (a0 : Nat) (i1 : Int32) (i2 : Int32) (i3 : Int32) (h : dzH) : Option (Int32 × dzH) := dzRI (dzC 16 [.ref a0, .int i1, .int i2, .int i3] h)
noncomputable def c_Sums_difference (a0 : Nat) (a1 : Nat) (a2 : Nat) (h : dzH) : Option (Int32 × dzH) := dzRI (dzC 17 [.ref a0, .ref a1, .ref a2] h)
noncomputable def c_P_subtract (a0 : Nat) (i1 : Int32) (i2 : Int32) (i3 : Int32) (h : dzH) : Option (Int32 × dzH) := dzRI (dzC 18 [.ref a0, .int i1, .int i2, .int i3] h)
noncomputable def c_Sums_usedWords (a0 : Nat) (h : dzH) : Option (Int32 × dzH) := dzRI (dzC 19 [.ref a0] h)
noncomputable def c_Arrays_fill (a0 : Nat) (i1 : Int32) (h : dzH) : Option dzH := dzRV (dzC 20 [.ref a0, .int i1] h)
noncomputable def c_Sums_setWideToProduct (a0 : Nat) (a1 : Nat) (a2 : Nat) (h : dzH) : Option dzH := dzRV (dzC 21 [.ref a0, .ref a1, .ref a2] h)
noncomputable def c_Sums_product (a0 : Nat) (a1 : Nat) (a2 : Nat) (a3 : Nat) (h : dzH) : Option (Int32 × dzH) := dzRI (dzC 22 [.ref a0, .ref a1, .ref a2, .ref a3] h)
noncomputable def c_P_multiply (a0 : Nat) (i1 : Int32) (i2 : Int32) (i3 : Int32) (h : dzH) : Option (Int32 × dzH) := dzRI (dzC 23 [.ref a0, .int i1, .int i2, .int i3] h)
noncomputable def c_Sums_isZero (a0 : Nat) (h : dzH) : Option (Int32 × dzH) := dzRI (dzC 24 [.ref a0] h)
noncomputable def c_Sums_leadingZeros (i0 : Int32) (h : dzH) : Option (Int32 × dzH) := dzRI (dzC 25 [.int i0] h)
noncomputable def c_Sums_shiftUp (a0 : Nat) (a1 : Nat) (i2 : Int32) (a3 : Nat) (h : dzH) : Option dzH := dzRV (dzC 26 [.ref a0, .ref a1, .int i2, .ref a3] h)
noncomputable def c_Sums_setDivisor (a0 : Nat) (a1 : Nat) (h : dzH) : Option dzH := dzRV (dzC 27 [.ref a0, .ref a1] h)
noncomputable def c_Sums_setWide (a0 : Nat) (a1 : Nat) (h : dzH) : Option dzH := dzRV (dzC 28 [.ref a0, .ref a1] h)
noncomputable def c_Sums_isAbove (j0 : Int64) (j2 : Int64) (h : dzH) : Option (Int32 × dzH) := dzRI (dzC 29 [.long j0, .long j2] h)
noncomputable def c_Sums_guessTimes (a0 : Nat) (i1 : Int32) (h : dzH) : Option (Int64 × dzH) := dzRJ (dzC 30 [.ref a0, .int i1] h)
noncomputable def c_Sums_takeAway (a0 : Nat) (j1 : Int64) (i3 : Int32) (h : dzH) : Option (Int32 × dzH) := dzRI (dzC 31 [.ref a0, .long j1, .int i3] h)
noncomputable def c_Sums_giveBack (a0 : Nat) (i1 : Int32) (h : dzH) : Option dzH := dzRV (dzC 32 [.ref a0, .int i1] h)
noncomputable def c_Sums_shiftWideDown (a0 : Nat) (h : dzH) : Option dzH := dzRV (dzC 33 [.ref a0] h)
noncomputable def c_Sums_reduceWide (a0 : Nat) (h : dzH) : Option dzH := dzRV (dzC 34 [.ref a0] h)
noncomputable def c_Sums_quotient (a0 : Nat) (a1 : Nat) (a2 : Nat) (a3 : Nat) (a4 : Nat) (h : dzH) : Option dzH := dzRV (dzC 35 [.ref a0, .ref a1, .ref a2, .ref a3, .ref a4] h)
noncomputable def c_P_divide (a0 : Nat) (i1 : Int32) (i2 : Int32) (i3 : Int32) (i4 : Int32) (h : dzH) : Option (Int32 × dzH) := dzRI (dzC 36 [.ref a0, .int i1, .int i2, .int i3, .int i4] h)
noncomputable def c_Sums_setSmall (a0 : Nat) (i1 : Int32) (h : dzH) : Option dzH := dzRV (dzC 37 [.ref a0, .int i1] h)
noncomputable def c_Sums_powerModulo (a0 : Nat) (a1 : Nat) (a2 : Nat) (a3 : Nat) (a4 : Nat) (h : dzH) : Option dzH := dzRV (dzC 38 [.ref a0, .ref a1, .ref a2, .ref a3, .ref a4] h)
noncomputable def c_P_power (a0 : Nat) (i1 : Int32) (i2 : Int32) (i3 : Int32) (i4 : Int32) (h : dzH) : Option (Int32 × dzH) := dzRI (dzC 39 [.ref a0, .int i1, .int i2, .int i3, .int i4] h)
noncomputable def c_Sums_greatestDivisor (a0 : Nat) (a1 : Nat) (a2 : Nat) (a3 : Nat) (h : dzH) : Option dzH := dzRV (dzC 40 [.ref a0, .ref a1, .ref a2, .ref a3] h)
noncomputable def c_P_common (a0 : Nat) (i1 : Int32) (i2 : Int32) (i3 : Int32) (h : dzH) : Option (Int32 × dzH) := dzRI (dzC 41 [.ref a0, .int i1, .int i2, .int i3] h)
noncomputable def c_Sums_order (a0 : Nat) (a1 : Nat) (h : dzH) : Option (Int32 × dzH) := dzRI (dzC 42 [.ref a0, .ref a1] h)
noncomputable def c_P_compare (a0 : Nat) (i1 : Int32) (i2 : Int32) (h : dzH) : Option (Int32 × dzH) := dzRI (dzC 43 [.ref a0, .int i1, .int i2] h)
noncomputable def c_Tape_room (a0 : Nat) (h : dzH) : Option (Int32 × dzH) := dzRI (dzC 44 [.ref a0] h)
noncomputable def c_Tape_append (a0 : Nat) (i1 : Int32) (h : dzH) : Option dzH := dzRV (dzC 45 [.ref a0, .int i1] h)
noncomputable def c_P_say (a0 : Nat) (i1 : Int32) (h : dzH) : Option (Int32 × dzH) := dzRI (dzC 46 [.ref a0, .int i1] h)
noncomputable def c_Lines_forgetBehind (a0 : Nat) (i1 : Int32) (h : dzH) : Option dzH := dzRV (dzC 47 [.ref a0, .int i1] h)
noncomputable def c_P_cut (a0 : Nat) (i1 : Int32) (h : dzH) : Option (Int32 × dzH) := dzRI (dzC 48 [.ref a0, .int i1] h)
noncomputable def c_P_length (a0 : Nat) (h : dzH) : Option (Int32 × dzH) := dzRI (dzC 49 [.ref a0] h)
noncomputable def c_P_at (a0 : Nat) (i1 : Int32) (h : dzH) : Option (Int32 × dzH) := dzRI (dzC 50 [.ref a0, .int i1] h)
noncomputable def c_Lines_end (a0 : Nat) (h : dzH) : Option (Int32 × dzH) := dzRI (dzC 51 [.ref a0] h)
noncomputable def c_Checker_refuse (a0 : Nat) (i1 : Int32) (i2 : Int32) (h : dzH) : Option (Int32 × dzH) := dzRI (dzC 52 [.ref a0, .int i1, .int i2] h)
noncomputable def c_Checker_take (a0 : Nat) (h : dzH) : Option (Int32 × dzH) := dzRI (dzC 53 [.ref a0] h)
noncomputable def c_P_isSmallPrime (i0 : Int32) (h : dzH) : Option (Int32 × dzH) := dzRI (dzC 54 [.int i0] h)
noncomputable def c_Checker_refuseTaken (a0 : Nat) (i1 : Int32) (h : dzH) : Option (Int32 × dzH) := dzRI (dzC 55 [.ref a0, .int i1] h)
noncomputable def c_Checker_readSmallPrime (a0 : Nat) (a1 : Nat) (h : dzH) : Option (Int32 × dzH) := dzRI (dzC 56 [.ref a0, .ref a1] h)
noncomputable def c_Sums_isAtMost (a0 : Nat) (i1 : Int32) (h : dzH) : Option (Int32 × dzH) := dzRI (dzC 57 [.ref a0, .int i1] h)
noncomputable def c_Checker_readNumber (a0 : Nat) (a1 : Nat) (h : dzH) : Option (Int32 × dzH) := dzRI (dzC 58 [.ref a0, .ref a1] h)
noncomputable def c_Checker_isWitness (i0 : Int32) (a1 : Nat) (h : dzH) : Option (Int32 × dzH) := dzRI (dzC 59 [.int i0, .ref a1] h)
noncomputable def c_Checker_readRoot (a0 : Nat) (a1 : Nat) (h : dzH) : Option (Int32 × dzH) := dzRI (dzC 60 [.ref a0, .ref a1] h)
noncomputable def c_Checker_factorNumber (a0 : Nat) (i1 : Int32) (h : dzH) : Option (Nat × dzH) := dzRA (dzC 61 [.ref a0, .int i1] h)
noncomputable def c_Checker_readFactorLine (a0 : Nat) (i1 : Int32) (i2 : Int32) (h : dzH) : Option (Int32 × dzH) := dzRI (dzC 62 [.ref a0, .int i1, .int i2] h)
noncomputable def c_Checker_readExponent (a0 : Nat) (i1 : Int32) (h : dzH) : Option (Int32 × dzH) := dzRI (dzC 63 [.ref a0, .int i1] h)
noncomputable def c_Checker_readFactors (a0 : Nat) (i1 : Int32) (h : dzH) : Option (Int32 × dzH) := dzRI (dzC 64 [.ref a0, .int i1] h)
noncomputable def c_Checker_readLine (a0 : Nat) (i1 : Int32) (h : dzH) : Option (Int32 × dzH) := dzRI (dzC 65 [.ref a0, .int i1] h)
noncomputable def c_Trial_begin (a0 : Nat) (a1 : Nat) (h : dzH) : Option dzH := dzRV (dzC 66 [.ref a0, .ref a1] h)
noncomputable def c_Checker_multiplyFactors (a0 : Nat) (h : dzH) : Option (Int32 × dzH) := dzRI (dzC 67 [.ref a0] h)
noncomputable def c_Sums_divides (a0 : Nat) (a1 : Nat) (a2 : Nat) (h : dzH) : Option (Int32 × dzH) := dzRI (dzC 68 [.ref a0, .ref a1, .ref a2] h)
noncomputable def c_Sums_squareIsAbove (a0 : Nat) (a1 : Nat) (a2 : Nat) (h : dzH) : Option (Int32 × dzH) := dzRI (dzC 69 [.ref a0, .ref a1, .ref a2] h)
noncomputable def c_Checker_productHolds (a0 : Nat) (h : dzH) : Option (Int32 × dzH) := dzRI (dzC 70 [.ref a0] h)
noncomputable def c_Sums_isOne (a0 : Nat) (h : dzH) : Option (Int32 × dzH) := dzRI (dzC 71 [.ref a0] h)
noncomputable def c_Trial_closes (a0 : Nat) (i1 : Int32) (h : dzH) : Option (Int32 × dzH) := dzRI (dzC 72 [.ref a0, .int i1] h)
noncomputable def c_Trial_parts (a0 : Nat) (i1 : Int32) (a2 : Nat) (h : dzH) : Option (Int32 × dzH) := dzRI (dzC 73 [.ref a0, .int i1, .ref a2] h)
noncomputable def c_Checker_factorPlace (a0 : Nat) (i1 : Int32) (h : dzH) : Option (Int32 × dzH) := dzRI (dzC 74 [.ref a0, .int i1] h)
noncomputable def c_Checker_rootHolds (a0 : Nat) (h : dzH) : Option (Int32 × dzH) := dzRI (dzC 75 [.ref a0] h)
noncomputable def c_Trial_partsEverywhere (a0 : Nat) (i1 : Int32) (a2 : Nat) (h : dzH) : Option (Int32 × dzH) := dzRI (dzC 76 [.ref a0, .int i1, .ref a2] h)
noncomputable def c_Checker_witnessesHold (a0 : Nat) (h : dzH) : Option (Int32 × dzH) := dzRI (dzC 77 [.ref a0] h)
noncomputable def c_Lines_keepNext (a0 : Nat) (i1 : Int32) (h : dzH) : Option dzH := dzRV (dzC 78 [.ref a0, .int i1] h)
noncomputable def c_Checker_findFault (a0 : Nat) (h : dzH) : Option (Int32 × dzH) := dzRI (dzC 79 [.ref a0] h)
noncomputable def c_P_check (a0 : Nat) (h : dzH) : Option (Int32 × dzH) := dzRI (dzC 80 [.ref a0] h)
noncomputable def c_P_place (a0 : Nat) (h : dzH) : Option (Int32 × dzH) := dzRI (dzC 81 [.ref a0] h)
noncomputable def c_P_tell (a0 : Nat) (i1 : Int32) (i2 : Int32) (h : dzH) : Option (Int32 × dzH) := dzRI (dzC 82 [.ref a0, .int i1, .int i2] h)
noncomputable def c_Lines_lineOf (a0 : Nat) (a1 : Nat) (h : dzH) : Option (Int32 × dzH) := dzRI (dzC 83 [.ref a0, .ref a1] h)
noncomputable def c_Maker_planSmallLine (a0 : Nat) (a1 : Nat) (h : dzH) : Option (Int32 × dzH) := dzRI (dzC 84 [.ref a0, .ref a1] h)
noncomputable def c_Maker_hasRoom (a0 : Nat) (i1 : Int32) (h : dzH) : Option (Int32 × dzH) := dzRI (dzC 85 [.ref a0, .int i1] h)
noncomputable def c_Maker_writeSmallLines (a0 : Nat) (h : dzH) : Option (Int32 × dzH) := dzRI (dzC 86 [.ref a0] h)
noncomputable def c_Maker_divideOut (a0 : Nat) (a1 : Nat) (h : dzH) : Option (Int32 × dzH) := dzRI (dzC 87 [.ref a0, .ref a1] h)
noncomputable def c_Maker_factorNumber (a0 : Nat) (i1 : Int32) (h : dzH) : Option (Nat × dzH) := dzRA (dzC 88 [.ref a0, .int i1] h)
noncomputable def c_Maker_insertFactor (a0 : Nat) (i1 : Int32) (i2 : Int32) (h : dzH) : Option (Int32 × dzH) := dzRI (dzC 89 [.ref a0, .int i1, .int i2] h)
noncomputable def c_Maker_insertPrime (a0 : Nat) (i1 : Int32) (h : dzH) : Option (Int32 × dzH) := dzRI (dzC 90 [.ref a0, .int i1] h)
noncomputable def c_Maker_findFactors (a0 : Nat) (h : dzH) : Option (Int32 × dzH) := dzRI (dzC 91 [.ref a0] h)
noncomputable def c_Maker_lastLineInts (a0 : Nat) (i1 : Int32) (h : dzH) : Option (Int32 × dzH) := dzRI (dzC 92 [.ref a0, .int i1] h)
noncomputable def c_Maker_factorsSuffice (a0 : Nat) (h : dzH) : Option (Int32 × dzH) := dzRI (dzC 93 [.ref a0] h)
noncomputable def c_Maker_findRoot (a0 : Nat) (h : dzH) : Option (Int32 × dzH) := dzRI (dzC 94 [.ref a0] h)
noncomputable def c_Maker_findWitnesses (a0 : Nat) (h : dzH) : Option (Int32 × dzH) := dzRI (dzC 95 [.ref a0] h)
noncomputable def c_Maker_writeLastLine (a0 : Nat) (i1 : Int32) (h : dzH) : Option (Int32 × dzH) := dzRI (dzC 96 [.ref a0, .int i1] h)
noncomputable def c_Maker_lineFor (a0 : Nat) (a1 : Nat) (h : dzH) : Option (Int32 × dzH) := dzRI (dzC 97 [.ref a0, .ref a1] h)
noncomputable def c_P_prove (a0 : Nat) (i1 : Int32) (h : dzH) : Option (Int32 × dzH) := dzRI (dzC 98 [.ref a0, .int i1] h)
noncomputable def c_M_set (a0 : Nat) (i1 : Int32) (j2 : Int64) (h : dzH) : Option dzH := dzRV (dzC 99 [.ref a0, .int i1, .long j2] h)
noncomputable def c_M_init (a0 : Nat) (h : dzH) : Option dzH := dzRV (dzC 100 [.ref a0] h)
noncomputable def c_M_copy (a0 : Nat) (i1 : Int32) (i2 : Int32) (h : dzH) : Option dzH := dzRV (dzC 101 [.ref a0, .int i1, .int i2] h)
noncomputable def c_M_order (a0 : Nat) (i1 : Int32) (i2 : Int32) (h : dzH) : Option (Int32 × dzH) := dzRI (dzC 102 [.ref a0, .int i1, .int i2] h)
noncomputable def c_M_lengthOf (a0 : Nat) (i1 : Int32) (h : dzH) : Option (Int32 × dzH) := dzRI (dzC 103 [.ref a0, .int i1] h)
noncomputable def c_M_isZero (a0 : Nat) (i1 : Int32) (h : dzH) : Option (Int32 × dzH) := dzRI (dzC 104 [.ref a0, .int i1] h)
noncomputable def c_M_raise (a0 : Nat) (i1 : Int32) (i2 : Int32) (h : dzH) : Option dzH := dzRV (dzC 105 [.ref a0, .int i1, .int i2] h)
noncomputable def c_M_lower (a0 : Nat) (i1 : Int32) (i2 : Int32) (h : dzH) : Option dzH := dzRV (dzC 106 [.ref a0, .int i1, .int i2] h)
noncomputable def c_M_times (a0 : Nat) (i1 : Int32) (i2 : Int32) (i3 : Int32) (h : dzH) : Option dzH := dzRV (dzC 107 [.ref a0, .int i1, .int i2, .int i3] h)
noncomputable def c_M_guess (a0 : Nat) (i1 : Int32) (i2 : Int32) (i3 : Int32) (i4 : Int32) (h : dzH) : Option (Int32 × dzH) := dzRI (dzC 108 [.ref a0, .int i1, .int i2, .int i3, .int i4] h)
noncomputable def c_M_away (a0 : Nat) (i1 : Int32) (i2 : Int32) (i3 : Int32) (i4 : Int32) (i5 : Int32) (h : dzH) : Option dzH := dzRV (dzC 109 [.ref a0, .int i1, .int i2, .int i3, .int i4, .int i5] h)
noncomputable def c_M_isOver (a0 : Nat) (i1 : Int32) (i2 : Int32) (i3 : Int32) (i4 : Int32) (h : dzH) : Option (Int32 × dzH) := dzRI (dzC 110 [.ref a0, .int i1, .int i2, .int i3, .int i4] h)
noncomputable def c_M_part (a0 : Nat) (i1 : Int32) (i2 : Int32) (i3 : Int32) (i4 : Int32) (h : dzH) : Option dzH := dzRV (dzC 111 [.ref a0, .int i1, .int i2, .int i3, .int i4] h)
noncomputable def c_M_bit (a0 : Nat) (i1 : Int32) (i2 : Int32) (h : dzH) : Option (Int32 × dzH) := dzRI (dzC 112 [.ref a0, .int i1, .int i2] h)
noncomputable def c_M_raiseTo (a0 : Nat) (i1 : Int32) (i2 : Int32) (i3 : Int32) (i4 : Int32) (h : dzH) : Option dzH := dzRV (dzC 113 [.ref a0, .int i1, .int i2, .int i3, .int i4] h)
noncomputable def c_M_divisor (a0 : Nat) (i1 : Int32) (i2 : Int32) (i3 : Int32) (h : dzH) : Option dzH := dzRV (dzC 114 [.ref a0, .int i1, .int i2, .int i3] h)
noncomputable def c_M_fits (a0 : Nat) (i1 : Int32) (h : dzH) : Option (Int32 × dzH) := dzRI (dzC 115 [.ref a0, .int i1] h)
noncomputable def c_M_isOne (a0 : Nat) (i1 : Int32) (h : dzH) : Option (Int32 × dzH) := dzRI (dzC 116 [.ref a0, .int i1] h)
noncomputable def c_M_isRegister (i0 : Int32) (h : dzH) : Option (Int32 × dzH) := dzRI (dzC 117 [.int i0] h)
noncomputable def c_M_put (a0 : Nat) (i1 : Int32) (i2 : Int32) (i3 : Int32) (h : dzH) : Option (Int32 × dzH) := dzRI (dzC 118 [.ref a0, .int i1, .int i2, .int i3] h)
noncomputable def c_M_get (a0 : Nat) (i1 : Int32) (i2 : Int32) (h : dzH) : Option (Int32 × dzH) := dzRI (dzC 119 [.ref a0, .int i1, .int i2] h)
noncomputable def c_M_are (i0 : Int32) (i1 : Int32) (i2 : Int32) (h : dzH) : Option (Int32 × dzH) := dzRI (dzC 120 [.int i0, .int i1, .int i2] h)
noncomputable def c_M_give (a0 : Nat) (i1 : Int32) (i2 : Int32) (h : dzH) : Option (Int32 × dzH) := dzRI (dzC 121 [.ref a0, .int i1, .int i2] h)
noncomputable def c_M_add (a0 : Nat) (i1 : Int32) (i2 : Int32) (i3 : Int32) (h : dzH) : Option (Int32 × dzH) := dzRI (dzC 122 [.ref a0, .int i1, .int i2, .int i3] h)
noncomputable def c_M_subtract (a0 : Nat) (i1 : Int32) (i2 : Int32) (i3 : Int32) (h : dzH) : Option (Int32 × dzH) := dzRI (dzC 123 [.ref a0, .int i1, .int i2, .int i3] h)
noncomputable def c_M_multiply (a0 : Nat) (i1 : Int32) (i2 : Int32) (i3 : Int32) (h : dzH) : Option (Int32 × dzH) := dzRI (dzC 124 [.ref a0, .int i1, .int i2, .int i3] h)
noncomputable def c_M_divide (a0 : Nat) (i1 : Int32) (i2 : Int32) (i3 : Int32) (i4 : Int32) (h : dzH) : Option (Int32 × dzH) := dzRI (dzC 125 [.ref a0, .int i1, .int i2, .int i3, .int i4] h)
noncomputable def c_M_power (a0 : Nat) (i1 : Int32) (i2 : Int32) (i3 : Int32) (i4 : Int32) (h : dzH) : Option (Int32 × dzH) := dzRI (dzC 126 [.ref a0, .int i1, .int i2, .int i3, .int i4] h)
noncomputable def c_M_common (a0 : Nat) (i1 : Int32) (i2 : Int32) (i3 : Int32) (h : dzH) : Option (Int32 × dzH) := dzRI (dzC 127 [.ref a0, .int i1, .int i2, .int i3] h)
noncomputable def c_M_compare (a0 : Nat) (i1 : Int32) (i2 : Int32) (h : dzH) : Option (Int32 × dzH) := dzRI (dzC 128 [.ref a0, .int i1, .int i2] h)
noncomputable def c_M_say (a0 : Nat) (i1 : Int32) (h : dzH) : Option (Int32 × dzH) := dzRI (dzC 129 [.ref a0, .int i1] h)
noncomputable def c_M_cut (a0 : Nat) (i1 : Int32) (h : dzH) : Option (Int32 × dzH) := dzRI (dzC 130 [.ref a0, .int i1] h)
noncomputable def c_M_length (a0 : Nat) (h : dzH) : Option (Int32 × dzH) := dzRI (dzC 131 [.ref a0] h)
noncomputable def c_M_at (a0 : Nat) (i1 : Int32) (h : dzH) : Option (Int32 × dzH) := dzRI (dzC 132 [.ref a0, .int i1] h)
noncomputable def c_M_fail (a0 : Nat) (i1 : Int32) (i2 : Int32) (h : dzH) : Option dzH := dzRV (dzC 133 [.ref a0, .int i1, .int i2] h)
noncomputable def c_M_isGood (a0 : Nat) (h : dzH) : Option (Int32 × dzH) := dzRI (dzC 134 [.ref a0] h)
noncomputable def c_M_next (a0 : Nat) (h : dzH) : Option (Int32 × dzH) := dzRI (dzC 135 [.ref a0] h)
noncomputable def c_M_nextIn (a0 : Nat) (i1 : Int32) (i2 : Int32) (h : dzH) : Option (Int32 × dzH) := dzRI (dzC 136 [.ref a0, .int i1, .int i2] h)
noncomputable def c_M_isSmallPrime (i0 : Int32) (h : dzH) : Option (Int32 × dzH) := dzRI (dzC 137 [.int i0] h)
noncomputable def c_M_lineOne (a0 : Nat) (h : dzH) : Option dzH := dzRV (dzC 138 [.ref a0] h)
noncomputable def c_M_number (a0 : Nat) (h : dzH) : Option dzH := dzRV (dzC 139 [.ref a0] h)
noncomputable def c_M_witness (a0 : Nat) (i1 : Int32) (h : dzH) : Option dzH := dzRV (dzC 140 [.ref a0, .int i1] h)
noncomputable def c_M_factors (a0 : Nat) (i1 : Int32) (h : dzH) : Option dzH := dzRV (dzC 141 [.ref a0, .int i1] h)
noncomputable def c_M_product (a0 : Nat) (i1 : Int32) (i2 : Int32) (h : dzH) : Option (Int32 × dzH) := dzRI (dzC 142 [.ref a0, .int i1, .int i2] h)
noncomputable def c_M_isWhole (a0 : Nat) (h : dzH) : Option (Int32 × dzH) := dzRI (dzC 143 [.ref a0] h)
noncomputable def c_M_isRight (a0 : Nat) (i1 : Int32) (i2 : Int32) (h : dzH) : Option (Int32 × dzH) := dzRI (dzC 144 [.ref a0, .int i1, .int i2] h)
noncomputable def c_M_lineTwo (a0 : Nat) (h : dzH) : Option dzH := dzRV (dzC 145 [.ref a0] h)
noncomputable def c_M_lineThree (a0 : Nat) (h : dzH) : Option dzH := dzRV (dzC 146 [.ref a0] h)
noncomputable def c_M_check (a0 : Nat) (h : dzH) : Option (Int32 × dzH) := dzRI (dzC 147 [.ref a0] h)
noncomputable def c_M_place (a0 : Nat) (h : dzH) : Option (Int32 × dzH) := dzRI (dzC 148 [.ref a0] h)
noncomputable def c_M_tell (a0 : Nat) (i1 : Int32) (i2 : Int32) (h : dzH) : Option (Int32 × dzH) := dzRI (dzC 149 [.ref a0, .int i1, .int i2] h)
noncomputable def c_M_lineOf (a0 : Nat) (i1 : Int32) (h : dzH) : Option (Int32 × dzH) := dzRI (dzC 150 [.ref a0, .int i1] h)
noncomputable def c_M_sayOne (a0 : Nat) (i1 : Int32) (h : dzH) : Option (Int32 × dzH) := dzRI (dzC 151 [.ref a0, .int i1] h)
noncomputable def c_M_often (a0 : Nat) (i1 : Int32) (h : dzH) : Option (Int32 × dzH) := dzRI (dzC 152 [.ref a0, .int i1] h)
noncomputable def c_M_sort (a0 : Nat) (i1 : Int32) (h : dzH) : Option dzH := dzRV (dzC 153 [.ref a0, .int i1] h)
noncomputable def c_M_find (a0 : Nat) (h : dzH) : Option (Int32 × dzH) := dzRI (dzC 154 [.ref a0] h)
noncomputable def c_M_wholeWitness (a0 : Nat) (h : dzH) : Option (Int32 × dzH) := dzRI (dzC 155 [.ref a0] h)
noncomputable def c_M_partWitnesses (a0 : Nat) (h : dzH) : Option (Int32 × dzH) := dzRI (dzC 156 [.ref a0] h)
noncomputable def c_M_sayLine (a0 : Nat) (i1 : Int32) (i2 : Int32) (h : dzH) : Option (Int32 × dzH) := dzRI (dzC 157 [.ref a0, .int i1, .int i2] h)
noncomputable def c_M_make (a0 : Nat) (h : dzH) : Option (Int32 × dzH) := dzRI (dzC 158 [.ref a0] h)
noncomputable def c_M_prove (a0 : Nat) (i1 : Int32) (h : dzH) : Option (Int32 × dzH) := dzRI (dzC 159 [.ref a0, .int i1] h)
noncomputable def c_L_law (a0 : Nat) (h : dzH) : Option (Int32 × dzH) := dzRI (dzC 160 [.ref a0] h)
-- PrimeCertificates$Sums.<init>:()V
set_option maxRecDepth 100000 in
theorem q_Sums_init_0 (a0 : Nat) (h : dzH) : dzF 0 0 [(0, .ref a0)] [] (0, 0) h =
  (dnI h (17 : Int32)).bind fun h1 =>
  (dpF h1 a0 6 0 (.ref h.1)).bind fun h2 =>
  (dnI h2 (17 : Int32)).bind fun h3 =>
  (dpF h3 a0 6 1 (.ref h2.1)).bind fun h4 =>
  (dnI h4 (8 : Int32)).bind fun h5 =>
  (dpF h5 a0 6 2 (.ref h4.1)).bind fun h6 =>
  (dpF h6 a0 6 3 (.int (0 : Int32))).bind fun h7 =>
  (dpF h7 a0 6 4 (.int (0 : Int32))).bind fun h8 =>
  (dnI h8 (8 : Int32)).bind fun h9 =>
  (dpF h9 a0 6 5 (.ref h8.1)).bind fun h10 =>
  (dnI h10 (8 : Int32)).bind fun h11 =>
  (dpF h11 a0 6 6 (.ref h10.1)).bind fun h12 =>
  (dnI h12 (8 : Int32)).bind fun h13 =>
  (dpF h13 a0 6 7 (.ref h12.1)).bind fun h14 =>
  (dnI h14 (8 : Int32)).bind fun h15 =>
  (dpF h15 a0 6 8 (.ref h14.1)).bind fun h16 =>
  some (none, h16) := (dzW_at 37 0 _ _ _ _ _).trans rfl
-- PrimeCertificates$Tape.<init>:()V
theorem q_Tape_init_0 (a0 : Nat) (h : dzH) : dzF 1 0 [(0, .ref a0)] [] (0, 0) h =
  (dnI h (4000 : Int32)).bind fun h1 =>
  (dpF h1 a0 7 0 (.ref h.1)).bind fun h2 =>
  (dpF h2 a0 7 1 (.int (0 : Int32))).bind fun h3 =>
  some (none, h3) := (dzW_at 10 1 _ _ _ _ _).trans rfl
-- PrimeCertificates$Lines.<init>:()V
theorem q_Lines_init_0 (a0 : Nat) (h : dzH) : dzF 2 0 [(0, .ref a0)] [] (0, 0) h =
  (dnM h (200 : Int32) (8 : Int32)).bind fun h1 =>
  (dpF h1 a0 4 0 (.ref h.1)).bind fun h2 =>
  (dnI h2 (200 : Int32)).bind fun h3 =>
  (dpF h3 a0 4 1 (.ref h2.1)).bind fun h4 =>
  (dpF h4 a0 4 2 (.int (0 : Int32))).bind fun h5 =>
  (dpF h5 a0 4 3 (.int (0 : Int32))).bind fun h6 =>
  some (none, h6) := (dzW_at 18 2 _ _ _ _ _).trans rfl
-- PrimeCertificates$Trial.<init>:(LPrimeCertificates$Sums;)V
theorem q_Trial_init_0 (a0 : Nat) (a1 : Nat) (h : dzH) : dzF 3 0 [(0, .ref a0), (1, .ref a1)] [] (0, 0) h =
  (dnI h (8 : Int32)).bind fun h1 =>
  (dpF h1 a0 8 1 (.ref h.1)).bind fun h2 =>
  (dnI h2 (8 : Int32)).bind fun h3 =>
  (dpF h3 a0 8 2 (.ref h2.1)).bind fun h4 =>
  (dnI h4 (8 : Int32)).bind fun h5 =>
  (dpF h5 a0 8 3 (.ref h4.1)).bind fun h6 =>
  (dnI h6 (8 : Int32)).bind fun h7 =>
  (dpF h7 a0 8 4 (.ref h6.1)).bind fun h8 =>
  (dnI h8 (8 : Int32)).bind fun h9 =>
  (dpF h9 a0 8 5 (.ref h8.1)).bind fun h10 =>
  (dnI h10 (8 : Int32)).bind fun h11 =>
  (dpF h11 a0 8 6 (.ref h10.1)).bind fun h12 =>
  (dpF h12 a0 8 0 (.ref a1)).bind fun h13 =>
  (dgA h13 a0 8 3).bind fun r14 =>
  (dwI h13 r14 (0 : Int32) (1 : Int32)).bind fun h15 =>
  some (none, h15) := (dzW_at 35 3 _ _ _ _ _).trans rfl
-- PrimeCertificates$Factors.<init>:()V
theorem q_Factors_init_0 (a0 : Nat) (h : dzH) : dzF 4 0 [(0, .ref a0)] [] (0, 0) h =
  (dnI h (40 : Int32)).bind fun h1 =>
  (dpF h1 a0 3 0 (.ref h.1)).bind fun h2 =>
  (dnI h2 (40 : Int32)).bind fun h3 =>
  (dpF h3 a0 3 1 (.ref h2.1)).bind fun h4 =>
  (dnI h4 (40 : Int32)).bind fun h5 =>
  (dpF h5 a0 3 2 (.ref h4.1)).bind fun h6 =>
  (dpF h6 a0 3 3 (.int (0 : Int32))).bind fun h7 =>
  some (none, h7) := (dzW_at 18 4 _ _ _ _ _).trans rfl
-- PrimeCertificates$Checker.<init>:(LPrimeCertificates$Tape;LPrimeCertificates$Lines;LPrimeCertificates$Sums;LPrimeCertificates$Trial;)V
set_option maxRecDepth 100000 in
theorem q_Checker_init_0 (a0 : Nat) (a1 : Nat) (a2 : Nat) (a3 : Nat) (a4 : Nat) (h : dzH) : dzF 5 0 [(0, .ref a0), (1, .ref a1), (2, .ref a2), (3, .ref a3), (4, .ref a4)] [] (0, 0) h =
  (c_Factors_init h.1 (dnO h 3)).bind fun h1 =>
  (dpF h1 a0 2 4 (.ref h.1)).bind fun h2 =>
  (dnI h2 (8 : Int32)).bind fun h3 =>
  (dpF h3 a0 2 5 (.ref h2.1)).bind fun h4 =>
  (dpF h4 a0 2 6 (.int (0 : Int32))).bind fun h5 =>
  (dpF h5 a0 2 7 (.int (0 : Int32))).bind fun h6 =>
  (dpF h6 a0 2 8 (.int (0 : Int32))).bind fun h7 =>
  (dpF h7 a0 2 9 (.int (0 : Int32))).bind fun h8 =>
  (dpF h8 a0 2 10 (.int (0 : Int32))).bind fun h9 =>
  (dpF h9 a0 2 11 (.int (0 : Int32))).bind fun h10 =>
  (dpF h10 a0 2 12 (.int (-2 : Int32))).bind fun h11 =>
  (dpF h11 a0 2 0 (.ref a1)).bind fun h12 =>
  (dpF h12 a0 2 1 (.ref a2)).bind fun h13 =>
  (dpF h13 a0 2 2 (.ref a3)).bind fun h14 =>
  (dpF h14 a0 2 3 (.ref a4)).bind fun h15 =>
  some (none, h15) := (dzW_at 45 5 _ _ _ _ _).trans rfl
-- PrimeCertificates$Maker.<init>:(LPrimeCertificates$Tape;LPrimeCertificates$Lines;LPrimeCertificates$Sums;LPrimeCertificates$Trial;)V
set_option maxRecDepth 100000 in
theorem q_Maker_init_0 (a0 : Nat) (a1 : Nat) (a2 : Nat) (a3 : Nat) (a4 : Nat) (h : dzH) : dzF 6 0 [(0, .ref a0), (1, .ref a1), (2, .ref a2), (3, .ref a3), (4, .ref a4)] [] (0, 0) h =
  (c_Factors_init h.1 (dnO h 3)).bind fun h1 =>
  (dpF h1 a0 5 4 (.ref h.1)).bind fun h2 =>
  (dnI h2 (8 : Int32)).bind fun h3 =>
  (dpF h3 a0 5 5 (.ref h2.1)).bind fun h4 =>
  (dnI h4 (8 : Int32)).bind fun h5 =>
  (dpF h5 a0 5 6 (.ref h4.1)).bind fun h6 =>
  (dnI h6 (8 : Int32)).bind fun h7 =>
  (dpF h7 a0 5 7 (.ref h6.1)).bind fun h8 =>
  (dnI h8 (8 : Int32)).bind fun h9 =>
  (dpF h9 a0 5 8 (.ref h8.1)).bind fun h10 =>
  (dpF h10 a0 5 9 (.int (0 : Int32))).bind fun h11 =>
  (dpF h11 a0 5 10 (.int (0 : Int32))).bind fun h12 =>
  (dpF h12 a0 5 0 (.ref a1)).bind fun h13 =>
  (dpF h13 a0 5 1 (.ref a2)).bind fun h14 =>
  (dpF h14 a0 5 2 (.ref a3)).bind fun h15 =>
  (dpF h15 a0 5 3 (.ref a4)).bind fun h16 =>
  some (none, h16) := (dzW_at 42 6 _ _ _ _ _).trans rfl
-- PrimeCertificates.<init>:()V
set_option maxRecDepth 100000 in
theorem q_P_init_0 (a0 : Nat) (h : dzH) : dzF 7 0 [(0, .ref a0)] [] (0, 0) h =
  (dnM h (8 : Int32) (8 : Int32)).bind fun h1 =>
  (dpF h1 a0 0 0 (.ref h.1)).bind fun h2 =>
  (dnI h2 (8 : Int32)).bind fun h3 =>
  (dpF h3 a0 0 1 (.ref h2.1)).bind fun h4 =>
  (dnI h4 (8 : Int32)).bind fun h5 =>
  (dpF h5 a0 0 2 (.ref h4.1)).bind fun h6 =>
  (c_Sums_init h6.1 (dnO h6 6)).bind fun h7 =>
  (dpF h7 a0 0 3 (.ref h6.1)).bind fun h8 =>
  (c_Tape_init h8.1 (dnO h8 7)).bind fun h9 =>
  (dpF h9 a0 0 4 (.ref h8.1)).bind fun h10 =>
  (c_Lines_init h10.1 (dnO h10 4)).bind fun h11 =>
  (dpF h11 a0 0 5 (.ref h10.1)).bind fun h12 =>
  (dgA (dnO h12 8) a0 0 3).bind fun r13 =>
  (c_Trial_init h12.1 r13 (dnO h12 8)).bind fun h14 =>
  (dgA (dnO h14 2) a0 0 4).bind fun r15 =>
  (dgA (dnO h14 2) a0 0 5).bind fun r16 =>
  (dgA (dnO h14 2) a0 0 3).bind fun r17 =>
  (c_Checker_init h14.1 r15 r16 r17 h12.1 (dnO h14 2)).bind fun h18 =>
  (dpF h18 a0 0 6 (.ref h14.1)).bind fun h19 =>
  (dgA (dnO h19 5) a0 0 4).bind fun r20 =>
  (dgA (dnO h19 5) a0 0 5).bind fun r21 =>
  (dgA (dnO h19 5) a0 0 3).bind fun r22 =>
  (c_Maker_init h19.1 r20 r21 r22 h12.1 (dnO h19 5)).bind fun h23 =>
  (dpF h23 a0 0 7 (.ref h19.1)).bind fun h24 =>
  some (none, h24) := (dzW_at 61 7 _ _ _ _ _).trans rfl
-- PrimeCertificates.isRegister:(I)Z
theorem q_P_isRegister_0 (i0 : Int32) (h : dzH) : dzF 8 0 [(0, .int i0)] [] (0, 0) h =
  if i0 < 0 then
    some (some (.int (0 : Int32)), h)
  else
    if i0 < (8 : Int32) then
      some (some (.int (1 : Int32)), h)
    else
      some (some (.int (0 : Int32)), h) := (dzW_at 8 8 _ _ _ _ _).trans rfl
-- PrimeCertificates.isWord:(I)Z
theorem q_P_isWord_0 (i0 : Int32) (h : dzH) : dzF 9 0 [(0, .int i0)] [] (0, 0) h =
  if i0 < 0 then
    some (some (.int (0 : Int32)), h)
  else
    if i0 < (8 : Int32) then
      some (some (.int (1 : Int32)), h)
    else
      some (some (.int (0 : Int32)), h) := (dzW_at 8 9 _ _ _ _ _).trans rfl
-- PrimeCertificates.put:(III)Z
theorem q_P_put_0 (a0 : Nat) (i1 : Int32) (i2 : Int32) (i3 : Int32) (h : dzH) : dzF 10 0 [(0, .ref a0), (1, .int i1), (2, .int i2), (3, .int i3)] [] (0, 0) h =
  (c_P_isRegister i1 h).bind fun q1 =>
  if q1.1 = 0 then
    some (some (.int (0 : Int32)), q1.2)
  else
    (c_P_isWord i2 q1.2).bind fun q2 =>
    if q2.1 = 0 then
      some (some (.int (0 : Int32)), q2.2)
    else
      (dgA q2.2 a0 0 0).bind fun r3 =>
      (drA q2.2 r3 i1).bind fun r4 =>
      (dwI q2.2 r4 i2 i3).bind fun h5 =>
      some (some (.int (1 : Int32)), h5) := (dzW_at 15 10 _ _ _ _ _).trans rfl
-- PrimeCertificates.get:(II)I
theorem q_P_get_0 (a0 : Nat) (i1 : Int32) (i2 : Int32) (h : dzH) : dzF 11 0 [(0, .ref a0), (1, .int i1), (2, .int i2)] [] (0, 0) h =
  (c_P_isRegister i1 h).bind fun q1 =>
  if q1.1 = 0 then
    some (some (.int (0 : Int32)), q1.2)
  else
    (c_P_isWord i2 q1.2).bind fun q2 =>
    if q2.1 = 0 then
      some (some (.int (0 : Int32)), q2.2)
    else
      (dgA q2.2 a0 0 0).bind fun r3 =>
      (drA q2.2 r3 i1).bind fun r4 =>
      (drI q2.2 r4 i2).bind fun v5 =>
      some (some (.int v5), q2.2) := (dzW_at 14 11 _ _ _ _ _).trans rfl
-- PrimeCertificates.areRegisters:(III)Z
theorem q_P_areRegisters_0 (i0 : Int32) (i1 : Int32) (i2 : Int32) (h : dzH) : dzF 12 0 [(0, .int i0), (1, .int i1), (2, .int i2)] [] (0, 0) h =
  (c_P_isRegister i0 h).bind fun q1 =>
  if q1.1 = 0 then
    some (some (.int (0 : Int32)), q1.2)
  else
    (c_P_isRegister i1 q1.2).bind fun q2 =>
    if q2.1 = 0 then
      some (some (.int (0 : Int32)), q2.2)
    else
      (c_P_isRegister i2 q2.2).bind fun q3 =>
      if q3.1 = 0 then
        some (some (.int (0 : Int32)), q3.2)
      else
        some (some (.int (1 : Int32)), q3.2) := (dzW_at 12 12 _ _ _ _ _).trans rfl
-- PrimeCertificates$Sums.sum:([I[I[I)Z
theorem q_Sums_sum_0 (a0 : Nat) (a1 : Nat) (a2 : Nat) (h : dzH) : dzF 13 0 [(0, .ref a0), (1, .ref a1), (2, .ref a2)] [] (0, 0) h =
  dzF 13 5 [(0, .ref a0), (1, .ref a1), (2, .ref a2), (3, .long (0 : Int64)), (5, .int (0 : Int32))] [] (0, 0) h := (dzW_at 5 13 _ _ _ _ _).trans rfl
theorem q_Sums_sum_5 (a0 : Nat) (a1 : Nat) (a2 : Nat) (j3 : Int64) (i5 : Int32) (h : dzH) : dzF 13 5 [(0, .ref a0), (1, .ref a1), (2, .ref a2), (3, .long j3), (5, .int i5)] [] (0, 0) h =
  if i5 < (8 : Int32) then
    (drI h a0 i5).bind fun v1 =>
    (drI h a1 i5).bind fun v2 =>
    (dwI h a2 i5 (Int64.toInt32 (j3 + (((Int32.toInt64 v1) &&& (4294967295 : Int64)) + ((Int32.toInt64 v2) &&& (4294967295 : Int64)))))).bind fun h3 =>
    dzF 13 5 [(0, .ref a0), (1, .ref a1), (2, .ref a2), (3, .long (k_lushr (j3 + (((Int32.toInt64 v1) &&& (4294967295 : Int64)) + ((Int32.toInt64 v2) &&& (4294967295 : Int64)))) (32 : Int32))), (5, .int (i5 + (1 : Int32)))] [] (0, 0) h3
  else
    if (k_lcmp j3 (0 : Int64)) = 0 then
      some (some (.int (1 : Int32)), h)
    else
      some (some (.int (0 : Int32)), h) := (dzW_at 31 13 _ _ _ _ _).trans rfl
-- PrimeCertificates$Sums.copy:([I[I)V
theorem q_Sums_copy_0 (a0 : Nat) (a1 : Nat) (h : dzH) : dzF 14 0 [(0, .ref a0), (1, .ref a1)] [] (0, 0) h =
  (dcp h a0 (0 : Int32) a1 (0 : Int32) (8 : Int32)).bind fun h1 =>
  some (none, h1) := (dzW_at 7 14 _ _ _ _ _).trans rfl
-- PrimeCertificates.keepAnswer:(I)I
theorem q_P_keepAnswer_0 (a0 : Nat) (i1 : Int32) (h : dzH) : dzF 15 0 [(0, .ref a0), (1, .int i1)] [] (0, 0) h =
  (dgA h a0 0 1).bind fun r1 =>
  (dgA h a0 0 0).bind fun r2 =>
  (drA h r2 i1).bind fun r3 =>
  (c_Sums_copy r1 r3 h).bind fun h4 =>
  some (some (.int (0 : Int32)), h4) := (dzW_at 9 15 _ _ _ _ _).trans rfl
-- PrimeCertificates.add:(III)I
theorem q_P_add_0 (a0 : Nat) (i1 : Int32) (i2 : Int32) (i3 : Int32) (h : dzH) : dzF 16 0 [(0, .ref a0), (1, .int i1), (2, .int i2), (3, .int i3)] [] (0, 0) h =
  (c_P_areRegisters i1 i2 i3 h).bind fun q1 =>
  if q1.1 = 0 then
    some (some (.int (-1 : Int32)), q1.2)
  else
    (dgA q1.2 a0 0 0).bind fun r2 =>
    (drA q1.2 r2 i1).bind fun r3 =>
    (dgA q1.2 a0 0 0).bind fun r4 =>
    (drA q1.2 r4 i2).bind fun r5 =>
    (dgA q1.2 a0 0 1).bind fun r6 =>
    (c_Sums_sum r3 r5 r6 q1.2).bind fun q7 =>
    if q7.1 = 0 then
      some (some (.int (-3 : Int32)), q7.2)
    else
      (c_P_keepAnswer a0 i3 q7.2).bind fun q8 =>
      some (some (.int q8.1), q8.2) := (dzW_at 22 16 _ _ _ _ _).trans rfl
-- PrimeCertificates$Sums.difference:([I[I[I)Z
theorem q_Sums_difference_0 (a0 : Nat) (a1 : Nat) (a2 : Nat) (h : dzH) : dzF 17 0 [(0, .ref a0), (1, .ref a1), (2, .ref a2)] [] (0, 0) h =
  dzF 17 5 [(0, .ref a0), (1, .ref a1), (2, .ref a2), (3, .long (0 : Int64)), (5, .int (0 : Int32))] [] (0, 0) h := (dzW_at 5 17 _ _ _ _ _).trans rfl
theorem q_Sums_difference_5 (a0 : Nat) (a1 : Nat) (a2 : Nat) (j3 : Int64) (i5 : Int32) (h : dzH) : dzF 17 5 [(0, .ref a0), (1, .ref a1), (2, .ref a2), (3, .long j3), (5, .int i5)] [] (0, 0) h =
  if i5 < (8 : Int32) then
    (drI h a0 i5).bind fun v1 =>
    (drI h a1 i5).bind fun v2 =>
    (dwI h a2 i5 (Int64.toInt32 (j3 + (((Int32.toInt64 v1) &&& (4294967295 : Int64)) - ((Int32.toInt64 v2) &&& (4294967295 : Int64)))))).bind fun h3 =>
    dzF 17 5 [(0, .ref a0), (1, .ref a1), (2, .ref a2), (3, .long (k_lshr (j3 + (((Int32.toInt64 v1) &&& (4294967295 : Int64)) - ((Int32.toInt64 v2) &&& (4294967295 : Int64)))) (32 : Int32))), (5, .int (i5 + (1 : Int32)))] [] (0, 0) h3
  else
    if (k_lcmp j3 (0 : Int64)) = 0 then
      some (some (.int (1 : Int32)), h)
    else
      some (some (.int (0 : Int32)), h) := (dzW_at 31 17 _ _ _ _ _).trans rfl
-- PrimeCertificates.subtract:(III)I
theorem q_P_subtract_0 (a0 : Nat) (i1 : Int32) (i2 : Int32) (i3 : Int32) (h : dzH) : dzF 18 0 [(0, .ref a0), (1, .int i1), (2, .int i2), (3, .int i3)] [] (0, 0) h =
  (c_P_areRegisters i1 i2 i3 h).bind fun q1 =>
  if q1.1 = 0 then
    some (some (.int (-1 : Int32)), q1.2)
  else
    (dgA q1.2 a0 0 0).bind fun r2 =>
    (drA q1.2 r2 i1).bind fun r3 =>
    (dgA q1.2 a0 0 0).bind fun r4 =>
    (drA q1.2 r4 i2).bind fun r5 =>
    (dgA q1.2 a0 0 1).bind fun r6 =>
    (c_Sums_difference r3 r5 r6 q1.2).bind fun q7 =>
    if q7.1 = 0 then
      some (some (.int (-2 : Int32)), q7.2)
    else
      (c_P_keepAnswer a0 i3 q7.2).bind fun q8 =>
      some (some (.int q8.1), q8.2) := (dzW_at 22 18 _ _ _ _ _).trans rfl
-- PrimeCertificates$Sums.usedWords:([I)I
theorem q_Sums_usedWords_0 (a0 : Nat) (h : dzH) : dzF 19 0 [(0, .ref a0)] [] (0, 0) h =
  (dln h a0).bind fun v1 =>
  dzF 19 3 [(0, .ref a0), (1, .int v1)] [] (0, 0) h := (dzW_at 4 19 _ _ _ _ _).trans rfl
theorem q_Sums_usedWords_3 (a0 : Nat) (i1 : Int32) (h : dzH) : dzF 19 3 [(0, .ref a0), (1, .int i1)] [] (0, 0) h =
  if i1 ≤ 0 then
    some (some (.int i1), h)
  else
    (drI h a0 (i1 - (1 : Int32))).bind fun v1 =>
    if v1 = 0 then
      dzF 19 3 [(0, .ref a0), (1, .int (i1 + (-1 : Int32)))] [] (0, 0) h
    else
      some (some (.int i1), h) := (dzW_at 11 19 _ _ _ _ _).trans rfl
-- java/util/Arrays.fill:([II)V
theorem q_Arrays_fill_0 (a0 : Nat) (i1 : Int32) (h : dzH) : dzF 20 0 [(0, .ref a0), (1, .int i1)] [] (0, 0) h =
  (dln h a0).bind fun v1 =>
  dzF 20 5 [(0, .ref a0), (1, .int i1), (2, .int (0 : Int32)), (3, .int v1)] [] (0, 0) h := (dzW_at 6 20 _ _ _ _ _).trans rfl
theorem q_Arrays_fill_5 (a0 : Nat) (i1 : Int32) (i2 : Int32) (i3 : Int32) (h : dzH) : dzF 20 5 [(0, .ref a0), (1, .int i1), (2, .int i2), (3, .int i3)] [] (0, 0) h =
  if i2 < i3 then
    (dwI h a0 i2 i1).bind fun h1 =>
    dzF 20 5 [(0, .ref a0), (1, .int i1), (2, .int (i2 + (1 : Int32))), (3, .int i3)] [] (0, 0) h1
  else
    some (none, h) := (dzW_at 10 20 _ _ _ _ _).trans rfl
-- PrimeCertificates$Sums.setWideToProduct:([I[I)V
theorem q_Sums_setWideToProduct_0 (a0 : Nat) (a1 : Nat) (a2 : Nat) (h : dzH) : dzF 21 0 [(0, .ref a0), (1, .ref a1), (2, .ref a2)] [] (0, 0) h =
  (c_Sums_usedWords a1 h).bind fun q1 =>
  (c_Sums_usedWords a2 q1.2).bind fun q2 =>
  (dgA q2.2 a0 6 0).bind fun r3 =>
  (c_Arrays_fill r3 (0 : Int32) q2.2).bind fun h4 =>
  dzF 21 22 [(0, .ref a0), (1, .ref a1), (2, .ref a2), (3, .int q1.1), (4, .int q2.1), (5, .int (0 : Int32))] [] (0, 0) h4 := (dzW_at 13 21 _ _ _ _ _).trans rfl
theorem q_Sums_setWideToProduct_22 (a0 : Nat) (a1 : Nat) (a2 : Nat) (i3 : Int32) (i4 : Int32) (i5 : Int32) (h : dzH) : dzF 21 22 [(0, .ref a0), (1, .ref a1), (2, .ref a2), (3, .int i3), (4, .int i4), (5, .int i5)] [] (0, 0) h =
  if i5 < i3 then
    (drI h a1 i5).bind fun v1 =>
    dzF 21 45 [(0, .ref a0), (1, .ref a1), (2, .ref a2), (3, .int i3), (4, .int i4), (5, .int i5), (6, .long ((Int32.toInt64 v1) &&& (4294967295 : Int64))), (8, .long (0 : Int64)), (10, .int (0 : Int32))] [] (0, 0) h
  else
    some (none, h) := (dzW_at 15 21 _ _ _ _ _).trans rfl
set_option maxRecDepth 100000 in
theorem q_Sums_setWideToProduct_45 (a0 : Nat) (a1 : Nat) (a2 : Nat) (i3 : Int32) (i4 : Int32) (i5 : Int32) (j6 : Int64) (j8 : Int64) (i10 : Int32) (h : dzH) : dzF 21 45 [(0, .ref a0), (1, .ref a1), (2, .ref a2), (3, .int i3), (4, .int i4), (5, .int i5), (6, .long j6), (8, .long j8), (10, .int i10)] [] (0, 0) h =
  if i10 < i4 then
    (drI h a2 i10).bind fun v1 =>
    (dgA h a0 6 0).bind fun r2 =>
    (drI h r2 (i5 + i10)).bind fun v3 =>
    (dgA h a0 6 0).bind fun r4 =>
    (dwI h r4 (i5 + i10) (Int64.toInt32 (j8 + ((j6 * ((Int32.toInt64 v1) &&& (4294967295 : Int64))) + ((Int32.toInt64 v3) &&& (4294967295 : Int64)))))).bind fun h5 =>
    dzF 21 45 [(0, .ref a0), (1, .ref a1), (2, .ref a2), (3, .int i3), (4, .int i4), (5, .int i5), (6, .long j6), (8, .long (k_lushr (j8 + ((j6 * ((Int32.toInt64 v1) &&& (4294967295 : Int64))) + ((Int32.toInt64 v3) &&& (4294967295 : Int64)))) (32 : Int32))), (10, .int (i10 + (1 : Int32)))] [] (0, 0) h5
  else
    (dgA h a0 6 0).bind fun r1 =>
    (dwI h r1 (i5 + i4) (Int64.toInt32 j8)).bind fun h2 =>
    dzF 21 22 [(0, .ref a0), (1, .ref a1), (2, .ref a2), (3, .int i3), (4, .int i4), (5, .int (i5 + (1 : Int32)))] [] (0, 0) h2 := (dzW_at 39 21 _ _ _ _ _).trans rfl
-- PrimeCertificates$Sums.product:([I[I[I)Z
theorem q_Sums_product_0 (a0 : Nat) (a1 : Nat) (a2 : Nat) (a3 : Nat) (h : dzH) : dzF 22 0 [(0, .ref a0), (1, .ref a1), (2, .ref a2), (3, .ref a3)] [] (0, 0) h =
  (c_Sums_setWideToProduct a0 a1 a2 h).bind fun h1 =>
  (dgA h1 a0 6 0).bind fun r2 =>
  (c_Sums_usedWords r2 h1).bind fun q3 =>
  if q3.1 ≤ (8 : Int32) then
    (dgA q3.2 a0 6 0).bind fun r4 =>
    (c_Sums_copy r4 a3 q3.2).bind fun h5 =>
    some (some (.int (1 : Int32)), h5)
  else
    some (some (.int (0 : Int32)), q3.2) := (dzW_at 15 22 _ _ _ _ _).trans rfl
-- PrimeCertificates.multiply:(III)I
theorem q_P_multiply_0 (a0 : Nat) (i1 : Int32) (i2 : Int32) (i3 : Int32) (h : dzH) : dzF 23 0 [(0, .ref a0), (1, .int i1), (2, .int i2), (3, .int i3)] [] (0, 0) h =
  (c_P_areRegisters i1 i2 i3 h).bind fun q1 =>
  if q1.1 = 0 then
    some (some (.int (-1 : Int32)), q1.2)
  else
    (dgA q1.2 a0 0 3).bind fun r2 =>
    (dgA q1.2 a0 0 0).bind fun r3 =>
    (drA q1.2 r3 i1).bind fun r4 =>
    (dgA q1.2 a0 0 0).bind fun r5 =>
    (drA q1.2 r5 i2).bind fun r6 =>
    (dgA q1.2 a0 0 1).bind fun r7 =>
    (c_Sums_product r2 r4 r6 r7 q1.2).bind fun q8 =>
    if q8.1 = 0 then
      some (some (.int (-3 : Int32)), q8.2)
    else
      (c_P_keepAnswer a0 i3 q8.2).bind fun q9 =>
      some (some (.int q9.1), q9.2) := (dzW_at 24 23 _ _ _ _ _).trans rfl
-- PrimeCertificates$Sums.isZero:([I)Z
theorem q_Sums_isZero_0 (a0 : Nat) (h : dzH) : dzF 24 0 [(0, .ref a0)] [] (0, 0) h =
  (c_Sums_usedWords a0 h).bind fun q1 =>
  if q1.1 = 0 then
    some (some (.int (1 : Int32)), q1.2)
  else
    some (some (.int (0 : Int32)), q1.2) := (dzW_at 6 24 _ _ _ _ _).trans rfl
-- PrimeCertificates$Sums.leadingZeros:(I)I
theorem q_Sums_leadingZeros_0 (i0 : Int32) (h : dzH) : dzF 25 0 [(0, .int i0)] [] (0, 0) h =
  dzF 25 2 [(0, .int i0), (1, .int (0 : Int32))] [] (0, 0) h := (dzW_at 3 25 _ _ _ _ _).trans rfl
theorem q_Sums_leadingZeros_2 (i0 : Int32) (i1 : Int32) (h : dzH) : dzF 25 2 [(0, .int i0), (1, .int i1)] [] (0, 0) h =
  if i1 < (31 : Int32) then
    if (k_ishl i0 i1) ≤ 0 then
      some (some (.int i1), h)
    else
      dzF 25 2 [(0, .int i0), (1, .int (i1 + (1 : Int32)))] [] (0, 0) h
  else
    some (some (.int i1), h) := (dzW_at 10 25 _ _ _ _ _).trans rfl
-- PrimeCertificates$Sums.shiftUp:([II[I)V
theorem q_Sums_shiftUp_0 (a0 : Nat) (a1 : Nat) (i2 : Int32) (a3 : Nat) (h : dzH) : dzF 26 0 [(0, .ref a0), (1, .ref a1), (2, .int i2), (3, .ref a3)] [] (0, 0) h =
  dzF 26 6 [(0, .ref a0), (1, .ref a1), (2, .int i2), (3, .ref a3), (4, .long (0 : Int64)), (6, .int (0 : Int32))] [] (0, 0) h := (dzW_at 5 26 _ _ _ _ _).trans rfl
theorem q_Sums_shiftUp_6 (a0 : Nat) (a1 : Nat) (i2 : Int32) (a3 : Nat) (j4 : Int64) (i6 : Int32) (h : dzH) : dzF 26 6 [(0, .ref a0), (1, .ref a1), (2, .int i2), (3, .ref a3), (4, .long j4), (6, .int i6)] [] (0, 0) h =
  if i6 < i2 then
    (drI h a1 i6).bind fun v1 =>
    (dgI h a0 6 4).bind fun v2 =>
    (dwI h a3 i6 (Int64.toInt32 (j4 ||| (k_lshl ((Int32.toInt64 v1) &&& (4294967295 : Int64)) v2)))).bind fun h3 =>
    dzF 26 6 [(0, .ref a0), (1, .ref a1), (2, .int i2), (3, .ref a3), (4, .long (k_lushr (j4 ||| (k_lshl ((Int32.toInt64 v1) &&& (4294967295 : Int64)) v2)) (32 : Int32))), (6, .int (i6 + (1 : Int32)))] [] (0, 0) h3
  else
    (dln h a3).bind fun v1 =>
    if i2 < v1 then
      (dwI h a3 i2 (Int64.toInt32 j4)).bind fun h2 =>
      some (none, h2)
    else
      some (none, h) := (dzW_at 27 26 _ _ _ _ _).trans rfl
-- PrimeCertificates$Sums.setDivisor:([I)V
theorem q_Sums_setDivisor_0 (a0 : Nat) (a1 : Nat) (h : dzH) : dzF 27 0 [(0, .ref a0), (1, .ref a1)] [] (0, 0) h =
  (c_Sums_usedWords a1 h).bind fun q1 =>
  (dpF q1.2 a0 6 3 (.int q1.1)).bind fun h2 =>
  (dgI h2 a0 6 3).bind fun v3 =>
  if v3 = 0 then
    dzF 27 31 [(0, .ref a0), (1, .ref a1)] [.int (0 : Int32), .ref a0] (0, 0) h2
  else
    (dgI h2 a0 6 3).bind fun v4 =>
    (drI h2 a1 (v4 - (1 : Int32))).bind fun v5 =>
    (c_Sums_leadingZeros v5 h2).bind fun q6 =>
    dzF 27 31 [(0, .ref a0), (1, .ref a1)] [.int q6.1, .ref a0] (0, 0) q6.2 := (dzW_at 16 27 _ _ _ _ _).trans rfl
theorem q_Sums_setDivisor_31 (a0 : Nat) (a1 : Nat) (sa0 : Nat) (si1 : Int32) (h : dzH) : dzF 27 31 [(0, .ref a0), (1, .ref a1)] [.int si1, .ref sa0] (0, 0) h =
  (dpF h sa0 6 4 (.int si1)).bind fun h1 =>
  (dgI h1 a0 6 3).bind fun v2 =>
  (dgA h1 a0 6 2).bind fun r3 =>
  (c_Sums_shiftUp a0 a1 v2 r3 h1).bind fun h4 =>
  some (none, h4) := (dzW_at 9 27 _ _ _ _ _).trans rfl
-- PrimeCertificates$Sums.setWide:([I)V
theorem q_Sums_setWide_0 (a0 : Nat) (a1 : Nat) (h : dzH) : dzF 28 0 [(0, .ref a0), (1, .ref a1)] [] (0, 0) h =
  (dgA h a0 6 0).bind fun r1 =>
  (c_Arrays_fill r1 (0 : Int32) h).bind fun h2 =>
  (dgA h2 a0 6 0).bind fun r3 =>
  (c_Sums_copy a1 r3 h2).bind fun h4 =>
  some (none, h4) := (dzW_at 9 28 _ _ _ _ _).trans rfl
-- PrimeCertificates$Sums.isAbove:(JJ)Z
theorem q_Sums_isAbove_0 (j0 : Int64) (j2 : Int64) (h : dzH) : dzF 29 0 [(0, .long j0), (2, .long j2)] [] (0, 0) h =
  if (k_lcmp (j0 ^^^ (-9223372036854775808 : Int64)) (j2 ^^^ (-9223372036854775808 : Int64))) ≤ 0 then
    some (some (.int (0 : Int32)), h)
  else
    some (some (.int (1 : Int32)), h) := (dzW_at 11 29 _ _ _ _ _).trans rfl
-- PrimeCertificates$Sums.guessTimes:(I)J
theorem q_Sums_guessTimes_0 (a0 : Nat) (i1 : Int32) (h : dzH) : dzF 30 0 [(0, .ref a0), (1, .int i1)] [] (0, 0) h =
  (dgI h a0 6 3).bind fun v1 =>
  (dgI h a0 6 3).bind fun v2 =>
  if v2 ≤ (1 : Int32) then
    dzF 30 20 [(0, .ref a0), (1, .int i1), (2, .int (i1 + v1))] [.int (0 : Int32)] (0, 0) h
  else
    dzF 30 20 [(0, .ref a0), (1, .int i1), (2, .int (i1 + v1))] [.int (1 : Int32)] (0, 0) h := (dzW_at 12 30 _ _ _ _ _).trans rfl
theorem q_Sums_guessTimes_20 (a0 : Nat) (i1 : Int32) (i2 : Int32) (si0 : Int32) (h : dzH) : dzF 30 20 [(0, .ref a0), (1, .int i1), (2, .int i2)] [.int si0] (0, 0) h =
  (dgA h a0 6 2).bind fun r1 =>
  (dgI h a0 6 3).bind fun v2 =>
  (drI h r1 (v2 - (1 : Int32))).bind fun v3 =>
  if si0 = 0 then
    dzF 30 63 [(0, .ref a0), (1, .int i1), (2, .int i2), (3, .int si0), (4, .long ((Int32.toInt64 v3) &&& (4294967295 : Int64)))] [.long (0 : Int64)] (0, 0) h
  else
    (dgA h a0 6 2).bind fun r4 =>
    (dgI h a0 6 3).bind fun v5 =>
    (drI h r4 (v5 - (2 : Int32))).bind fun v6 =>
    dzF 30 63 [(0, .ref a0), (1, .int i1), (2, .int i2), (3, .int si0), (4, .long ((Int32.toInt64 v3) &&& (4294967295 : Int64)))] [.long ((Int32.toInt64 v6) &&& (4294967295 : Int64))] (0, 0) h := (dzW_at 26 30 _ _ _ _ _).trans rfl
theorem q_Sums_guessTimes_63 (a0 : Nat) (i1 : Int32) (i2 : Int32) (i3 : Int32) (j4 : Int64) (sj0 : Int64) (h : dzH) : dzF 30 63 [(0, .ref a0), (1, .int i1), (2, .int i2), (3, .int i3), (4, .long j4)] [.long sj0] (0, 0) h =
  if i3 = 0 then
    dzF 30 86 [(0, .ref a0), (1, .int i1), (2, .int i2), (3, .int i3), (4, .long j4), (6, .long sj0)] [.long (0 : Int64)] (0, 0) h
  else
    (dgA h a0 6 0).bind fun r1 =>
    (drI h r1 (i2 - (2 : Int32))).bind fun v2 =>
    dzF 30 86 [(0, .ref a0), (1, .int i1), (2, .int i2), (3, .int i3), (4, .long j4), (6, .long sj0)] [.long ((Int32.toInt64 v2) &&& (4294967295 : Int64))] (0, 0) h := (dzW_at 14 30 _ _ _ _ _).trans rfl
set_option maxRecDepth 100000 in
theorem q_Sums_guessTimes_86 (a0 : Nat) (i1 : Int32) (i2 : Int32) (i3 : Int32) (j4 : Int64) (j6 : Int64) (sj0 : Int64) (h : dzH) : dzF 30 86 [(0, .ref a0), (1, .int i1), (2, .int i2), (3, .int i3), (4, .long j4), (6, .long j6)] [.long sj0] (0, 0) h =
  (dgA h a0 6 0).bind fun r1 =>
  (drI h r1 i2).bind fun v2 =>
  (dgA h a0 6 0).bind fun r3 =>
  (drI h r3 (i2 - (1 : Int32))).bind fun v4 =>
  if (k_lcmp j4 (0 : Int64)) = 0 then
    some (some (.long (0 : Int64)), h)
  else
    if j4 = 0 then none else
    if (k_lcmp (((k_lshl ((Int32.toInt64 v2) &&& (4294967295 : Int64)) (32 : Int32)) ||| ((Int32.toInt64 v4) &&& (4294967295 : Int64))) - ((k_lshl ((k_lushr ((k_lshl ((Int32.toInt64 v2) &&& (4294967295 : Int64)) (32 : Int32)) ||| ((Int32.toInt64 v4) &&& (4294967295 : Int64))) (1 : Int32)) / j4) (1 : Int32)) * j4)) j4) < 0 then
      dzF 30 169 [(0, .ref a0), (1, .int i1), (2, .int i2), (3, .int i3), (4, .long j4), (6, .long j6), (8, .long sj0), (10, .long ((k_lshl ((Int32.toInt64 v2) &&& (4294967295 : Int64)) (32 : Int32)) ||| ((Int32.toInt64 v4) &&& (4294967295 : Int64)))), (12, .long (k_lshl ((k_lushr ((k_lshl ((Int32.toInt64 v2) &&& (4294967295 : Int64)) (32 : Int32)) ||| ((Int32.toInt64 v4) &&& (4294967295 : Int64))) (1 : Int32)) / j4) (1 : Int32))), (14, .long (((k_lshl ((Int32.toInt64 v2) &&& (4294967295 : Int64)) (32 : Int32)) ||| ((Int32.toInt64 v4) &&& (4294967295 : Int64))) - ((k_lshl ((k_lushr ((k_lshl ((Int32.toInt64 v2) &&& (4294967295 : Int64)) (32 : Int32)) ||| ((Int32.toInt64 v4) &&& (4294967295 : Int64))) (1 : Int32)) / j4) (1 : Int32)) * j4)))] [] (0, 0) h
    else
      dzF 30 169 [(0, .ref a0), (1, .int i1), (2, .int i2), (3, .int i3), (4, .long j4), (6, .long j6), (8, .long sj0), (10, .long ((k_lshl ((Int32.toInt64 v2) &&& (4294967295 : Int64)) (32 : Int32)) ||| ((Int32.toInt64 v4) &&& (4294967295 : Int64)))), (12, .long ((k_lshl ((k_lushr ((k_lshl ((Int32.toInt64 v2) &&& (4294967295 : Int64)) (32 : Int32)) ||| ((Int32.toInt64 v4) &&& (4294967295 : Int64))) (1 : Int32)) / j4) (1 : Int32)) + (1 : Int64))), (14, .long ((((k_lshl ((Int32.toInt64 v2) &&& (4294967295 : Int64)) (32 : Int32)) ||| ((Int32.toInt64 v4) &&& (4294967295 : Int64))) - ((k_lshl ((k_lushr ((k_lshl ((Int32.toInt64 v2) &&& (4294967295 : Int64)) (32 : Int32)) ||| ((Int32.toInt64 v4) &&& (4294967295 : Int64))) (1 : Int32)) / j4) (1 : Int32)) * j4)) - j4))] [] (0, 0) h := (dzW_at 52 30 _ _ _ _ _).trans rfl
theorem q_Sums_guessTimes_169 (a0 : Nat) (i1 : Int32) (i2 : Int32) (i3 : Int32) (j4 : Int64) (j6 : Int64) (j8 : Int64) (j10 : Int64) (j12 : Int64) (j14 : Int64) (h : dzH) : dzF 30 169 [(0, .ref a0), (1, .int i1), (2, .int i2), (3, .int i3), (4, .long j4), (6, .long j6), (8, .long j8), (10, .long j10), (12, .long j12), (14, .long j14)] [] (0, 0) h =
  dzF 30 172 [(0, .ref a0), (1, .int i1), (2, .int i2), (3, .int i3), (4, .long j4), (6, .long j6), (8, .long j8), (10, .long j10), (12, .long j12), (14, .long j14), (16, .int (0 : Int32))] [] (0, 0) h := (dzW_at 3 30 _ _ _ _ _).trans rfl
theorem q_Sums_guessTimes_172 (a0 : Nat) (i1 : Int32) (i2 : Int32) (i3 : Int32) (j4 : Int64) (j6 : Int64) (j8 : Int64) (j10 : Int64) (j12 : Int64) (j14 : Int64) (i16 : Int32) (h : dzH) : dzF 30 172 [(0, .ref a0), (1, .int i1), (2, .int i2), (3, .int i3), (4, .long j4), (6, .long j6), (8, .long j8), (10, .long j10), (12, .long j12), (14, .long j14), (16, .int i16)] [] (0, 0) h =
  if i16 < (2 : Int32) then
    if (k_lcmp j14 (4294967295 : Int64)) ≤ 0 then
      if (k_lcmp j12 (4294967295 : Int64)) ≤ 0 then
        (c_Sums_isAbove (j12 * j6) ((k_lshl j14 (32 : Int32)) ||| j8) h).bind fun q1 =>
        if q1.1 = 0 then
          some (some (.long j12), q1.2)
        else
          dzF 30 218 [(0, .ref a0), (1, .int i1), (2, .int i2), (3, .int i3), (4, .long j4), (6, .long j6), (8, .long j8), (10, .long j10), (12, .long j12), (14, .long j14), (16, .int i16)] [] (0, 0) q1.2
      else
        dzF 30 218 [(0, .ref a0), (1, .int i1), (2, .int i2), (3, .int i3), (4, .long j4), (6, .long j6), (8, .long j8), (10, .long j10), (12, .long j12), (14, .long j14), (16, .int i16)] [] (0, 0) h
    else
      some (some (.long j12), h)
  else
    some (some (.long j12), h) := (dzW_at 24 30 _ _ _ _ _).trans rfl
theorem q_Sums_guessTimes_218 (a0 : Nat) (i1 : Int32) (i2 : Int32) (i3 : Int32) (j4 : Int64) (j6 : Int64) (j8 : Int64) (j10 : Int64) (j12 : Int64) (j14 : Int64) (i16 : Int32) (h : dzH) : dzF 30 218 [(0, .ref a0), (1, .int i1), (2, .int i2), (3, .int i3), (4, .long j4), (6, .long j6), (8, .long j8), (10, .long j10), (12, .long j12), (14, .long j14), (16, .int i16)] [] (0, 0) h =
  dzF 30 172 [(0, .ref a0), (1, .int i1), (2, .int i2), (3, .int i3), (4, .long j4), (6, .long j6), (8, .long j8), (10, .long j10), (12, .long (j12 - (1 : Int64))), (14, .long (j14 + j4)), (16, .int (i16 + (1 : Int32)))] [] (0, 0) h := (dzW_at 11 30 _ _ _ _ _).trans rfl
-- PrimeCertificates$Sums.takeAway:(JI)Z
theorem q_Sums_takeAway_0 (a0 : Nat) (j1 : Int64) (i3 : Int32) (h : dzH) : dzF 31 0 [(0, .ref a0), (1, .long j1), (3, .int i3)] [] (0, 0) h =
  dzF 31 6 [(0, .ref a0), (1, .long j1), (3, .int i3), (4, .long (0 : Int64)), (6, .int (0 : Int32))] [] (0, 0) h := (dzW_at 5 31 _ _ _ _ _).trans rfl
set_option maxRecDepth 100000 in
theorem q_Sums_takeAway_6 (a0 : Nat) (j1 : Int64) (i3 : Int32) (j4 : Int64) (i6 : Int32) (h : dzH) : dzF 31 6 [(0, .ref a0), (1, .long j1), (3, .int i3), (4, .long j4), (6, .int i6)] [] (0, 0) h =
  (dgI h a0 6 3).bind fun v1 =>
  if i6 < v1 then
    (dgA h a0 6 2).bind fun r2 =>
    (drI h r2 i6).bind fun v3 =>
    (dgA h a0 6 0).bind fun r4 =>
    (drI h r4 (i6 + i3)).bind fun v5 =>
    (dgA h a0 6 0).bind fun r6 =>
    (dwI h r6 (i6 + i3) (Int64.toInt32 (((Int32.toInt64 v5) &&& (4294967295 : Int64)) - (((j1 * ((Int32.toInt64 v3) &&& (4294967295 : Int64))) + j4) &&& (4294967295 : Int64))))).bind fun h7 =>
    if (k_lcmp (((Int32.toInt64 v5) &&& (4294967295 : Int64)) - (((j1 * ((Int32.toInt64 v3) &&& (4294967295 : Int64))) + j4) &&& (4294967295 : Int64))) (0 : Int64)) < 0 then
      dzF 31 86 [(0, .ref a0), (1, .long j1), (3, .int i3), (4, .long j4), (6, .int i6), (7, .long ((j1 * ((Int32.toInt64 v3) &&& (4294967295 : Int64))) + j4)), (9, .long (((Int32.toInt64 v5) &&& (4294967295 : Int64)) - (((j1 * ((Int32.toInt64 v3) &&& (4294967295 : Int64))) + j4) &&& (4294967295 : Int64))))] [.int (1 : Int32), .long (k_lushr ((j1 * ((Int32.toInt64 v3) &&& (4294967295 : Int64))) + j4) (32 : Int32))] (0, 0) h7
    else
      dzF 31 86 [(0, .ref a0), (1, .long j1), (3, .int i3), (4, .long j4), (6, .int i6), (7, .long ((j1 * ((Int32.toInt64 v3) &&& (4294967295 : Int64))) + j4)), (9, .long (((Int32.toInt64 v5) &&& (4294967295 : Int64)) - (((j1 * ((Int32.toInt64 v3) &&& (4294967295 : Int64))) + j4) &&& (4294967295 : Int64))))] [.int (0 : Int32), .long (k_lushr ((j1 * ((Int32.toInt64 v3) &&& (4294967295 : Int64))) + j4) (32 : Int32))] (0, 0) h7
  else
    (dgA h a0 6 0).bind fun r2 =>
    (dgI h a0 6 3).bind fun v3 =>
    (drI h r2 (i3 + v3)).bind fun v4 =>
    (dgA h a0 6 0).bind fun r5 =>
    (dgI h a0 6 3).bind fun v6 =>
    (dwI h r5 (i3 + v6) (Int64.toInt32 (((Int32.toInt64 v4) &&& (4294967295 : Int64)) - j4))).bind fun h7 =>
    if (k_lcmp (((Int32.toInt64 v4) &&& (4294967295 : Int64)) - j4) (0 : Int64)) < 0 then
      some (some (.int (0 : Int32)), h7)
    else
      some (some (.int (1 : Int32)), h7) := (dzW_at 48 31 _ _ _ _ _).trans rfl
theorem q_Sums_takeAway_86 (a0 : Nat) (j1 : Int64) (i3 : Int32) (j4 : Int64) (i6 : Int32) (j7 : Int64) (j9 : Int64) (sj0 : Int64) (si1 : Int32) (h : dzH) : dzF 31 86 [(0, .ref a0), (1, .long j1), (3, .int i3), (4, .long j4), (6, .int i6), (7, .long j7), (9, .long j9)] [.int si1, .long sj0] (0, 0) h =
  dzF 31 6 [(0, .ref a0), (1, .long j1), (3, .int i3), (4, .long (sj0 + (Int32.toInt64 si1))), (6, .int (i6 + (1 : Int32)))] [] (0, 0) h := (dzW_at 6 31 _ _ _ _ _).trans rfl
-- PrimeCertificates$Sums.giveBack:(I)V
theorem q_Sums_giveBack_0 (a0 : Nat) (i1 : Int32) (h : dzH) : dzF 32 0 [(0, .ref a0), (1, .int i1)] [] (0, 0) h =
  dzF 32 5 [(0, .ref a0), (1, .int i1), (2, .long (0 : Int64)), (4, .int (0 : Int32))] [] (0, 0) h := (dzW_at 5 32 _ _ _ _ _).trans rfl
set_option maxRecDepth 100000 in
theorem q_Sums_giveBack_5 (a0 : Nat) (i1 : Int32) (j2 : Int64) (i4 : Int32) (h : dzH) : dzF 32 5 [(0, .ref a0), (1, .int i1), (2, .long j2), (4, .int i4)] [] (0, 0) h =
  (dgI h a0 6 3).bind fun v1 =>
  if i4 < v1 then
    (dgA h a0 6 0).bind fun r2 =>
    (drI h r2 (i4 + i1)).bind fun v3 =>
    (dgA h a0 6 2).bind fun r4 =>
    (drI h r4 i4).bind fun v5 =>
    (dgA h a0 6 0).bind fun r6 =>
    (dwI h r6 (i4 + i1) (Int64.toInt32 (j2 + (((Int32.toInt64 v3) &&& (4294967295 : Int64)) + ((Int32.toInt64 v5) &&& (4294967295 : Int64)))))).bind fun h7 =>
    dzF 32 5 [(0, .ref a0), (1, .int i1), (2, .long (k_lushr (j2 + (((Int32.toInt64 v3) &&& (4294967295 : Int64)) + ((Int32.toInt64 v5) &&& (4294967295 : Int64)))) (32 : Int32))), (4, .int (i4 + (1 : Int32)))] [] (0, 0) h7
  else
    (dgA h a0 6 0).bind fun r2 =>
    (dgI h a0 6 3).bind fun v3 =>
    (drI h r2 (i1 + v3)).bind fun v4 =>
    (dwI h r2 (i1 + v3) (v4 + (Int64.toInt32 j2))).bind fun h5 =>
    some (none, h5) := (dzW_at 39 32 _ _ _ _ _).trans rfl
-- PrimeCertificates$Sums.shiftWideDown:()V
theorem q_Sums_shiftWideDown_0 (a0 : Nat) (h : dzH) : dzF 33 0 [(0, .ref a0)] [] (0, 0) h =
  (dgI h a0 6 3).bind fun v1 =>
  dzF 33 9 [(0, .ref a0), (1, .long (0 : Int64)), (3, .int (v1 - (1 : Int32)))] [] (0, 0) h := (dzW_at 8 33 _ _ _ _ _).trans rfl
theorem q_Sums_shiftWideDown_9 (a0 : Nat) (j1 : Int64) (i3 : Int32) (h : dzH) : dzF 33 9 [(0, .ref a0), (1, .long j1), (3, .int i3)] [] (0, 0) h =
  if i3 < 0 then
    some (none, h)
  else
    (dgA h a0 6 0).bind fun r1 =>
    (drI h r1 i3).bind fun v2 =>
    (dgA h a0 6 0).bind fun r3 =>
    (dgI h a0 6 4).bind fun v4 =>
    (dwI h r3 i3 (Int64.toInt32 (k_lushr ((k_lshl j1 (32 : Int32)) ||| ((Int32.toInt64 v2) &&& (4294967295 : Int64))) v4))).bind fun h5 =>
    dzF 33 9 [(0, .ref a0), (1, .long ((Int32.toInt64 v2) &&& (4294967295 : Int64))), (3, .int (i3 + (-1 : Int32)))] [] (0, 0) h5 := (dzW_at 28 33 _ _ _ _ _).trans rfl
-- PrimeCertificates$Sums.reduceWide:()V
theorem q_Sums_reduceWide_0 (a0 : Nat) (h : dzH) : dzF 34 0 [(0, .ref a0)] [] (0, 0) h =
  (dgA h a0 6 1).bind fun r1 =>
  (c_Arrays_fill r1 (0 : Int32) h).bind fun h2 =>
  (dgA h2 a0 6 0).bind fun r3 =>
  (c_Sums_usedWords r3 h2).bind fun q4 =>
  (dgI q4.2 a0 6 3).bind fun v5 =>
  if v5 = 0 then
    some (none, q4.2)
  else
    (dgI q4.2 a0 6 3).bind fun v6 =>
    if q4.1 < v6 then
      some (none, q4.2)
    else
      (dgA q4.2 a0 6 0).bind fun r7 =>
      (dgA q4.2 a0 6 0).bind fun r8 =>
      (c_Sums_shiftUp a0 r7 q4.1 r8 q4.2).bind fun h9 =>
      (dgI h9 a0 6 3).bind fun v10 =>
      dzF 34 52 [(0, .ref a0), (1, .int q4.1), (2, .int (q4.1 - v10))] [] (0, 0) h9 := (dzW_at 28 34 _ _ _ _ _).trans rfl
theorem q_Sums_reduceWide_52 (a0 : Nat) (i1 : Int32) (i2 : Int32) (h : dzH) : dzF 34 52 [(0, .ref a0), (1, .int i1), (2, .int i2)] [] (0, 0) h =
  if i2 < 0 then
    (c_Sums_shiftWideDown a0 h).bind fun h1 =>
    some (none, h1)
  else
    (c_Sums_guessTimes a0 i2 h).bind fun q1 =>
    (c_Sums_takeAway a0 q1.1 i2 q1.2).bind fun q2 =>
    if q2.1 = 0 then
      (c_Sums_giveBack a0 i2 q2.2).bind fun h3 =>
      dzF 34 80 [(0, .ref a0), (1, .int i1), (2, .int i2), (3, .long (q1.1 - (1 : Int64)))] [] (0, 0) h3
    else
      dzF 34 80 [(0, .ref a0), (1, .int i1), (2, .int i2), (3, .long q1.1)] [] (0, 0) q2.2 := (dzW_at 19 34 _ _ _ _ _).trans rfl
theorem q_Sums_reduceWide_80 (a0 : Nat) (i1 : Int32) (i2 : Int32) (j3 : Int64) (h : dzH) : dzF 34 80 [(0, .ref a0), (1, .int i1), (2, .int i2), (3, .long j3)] [] (0, 0) h =
  (dgA h a0 6 1).bind fun r1 =>
  (dwI h r1 i2 (Int64.toInt32 j3)).bind fun h2 =>
  dzF 34 52 [(0, .ref a0), (1, .int i1), (2, .int (i2 + (-1 : Int32)))] [] (0, 0) h2 := (dzW_at 9 34 _ _ _ _ _).trans rfl
-- PrimeCertificates$Sums.quotient:([I[I[I[I)V
theorem q_Sums_quotient_0 (a0 : Nat) (a1 : Nat) (a2 : Nat) (a3 : Nat) (a4 : Nat) (h : dzH) : dzF 35 0 [(0, .ref a0), (1, .ref a1), (2, .ref a2), (3, .ref a3), (4, .ref a4)] [] (0, 0) h =
  (c_Sums_setDivisor a0 a2 h).bind fun h1 =>
  (c_Sums_setWide a0 a1 h1).bind fun h2 =>
  (c_Sums_reduceWide a0 h2).bind fun h3 =>
  (dgA h3 a0 6 1).bind fun r4 =>
  (c_Sums_copy r4 a3 h3).bind fun h5 =>
  (dgA h5 a0 6 0).bind fun r6 =>
  (c_Sums_copy r6 a4 h5).bind fun h7 =>
  some (none, h7) := (dzW_at 17 35 _ _ _ _ _).trans rfl
-- PrimeCertificates.divide:(IIII)I
set_option maxRecDepth 100000 in
theorem q_P_divide_0 (a0 : Nat) (i1 : Int32) (i2 : Int32) (i3 : Int32) (i4 : Int32) (h : dzH) : dzF 36 0 [(0, .ref a0), (1, .int i1), (2, .int i2), (3, .int i3), (4, .int i4)] [] (0, 0) h =
  (c_P_areRegisters i1 i2 i3 h).bind fun q1 =>
  if q1.1 = 0 then
    some (some (.int (-1 : Int32)), q1.2)
  else
    (c_P_isRegister i4 q1.2).bind fun q2 =>
    if q2.1 = 0 then
      some (some (.int (-1 : Int32)), q2.2)
    else
      if i3 = i4 then
        some (some (.int (-1 : Int32)), q2.2)
      else
        (dgA q2.2 a0 0 0).bind fun r3 =>
        (drA q2.2 r3 i2).bind fun r4 =>
        (c_Sums_isZero r4 q2.2).bind fun q5 =>
        if q5.1 = 0 then
          (dgA q5.2 a0 0 3).bind fun r6 =>
          (dgA q5.2 a0 0 0).bind fun r7 =>
          (drA q5.2 r7 i1).bind fun r8 =>
          (dgA q5.2 a0 0 0).bind fun r9 =>
          (drA q5.2 r9 i2).bind fun r10 =>
          (dgA q5.2 a0 0 1).bind fun r11 =>
          (dgA q5.2 a0 0 2).bind fun r12 =>
          (c_Sums_quotient r6 r8 r10 r11 r12 q5.2).bind fun h13 =>
          (dgA h13 a0 0 2).bind fun r14 =>
          (dgA h13 a0 0 0).bind fun r15 =>
          (drA h13 r15 i4).bind fun r16 =>
          (c_Sums_copy r14 r16 h13).bind fun h17 =>
          (c_P_keepAnswer a0 i3 h17).bind fun q18 =>
          some (some (.int q18.1), q18.2)
        else
          some (some (.int (-2 : Int32)), q5.2) := (dzW_at 43 36 _ _ _ _ _).trans rfl
-- PrimeCertificates$Sums.setSmall:([II)V
theorem q_Sums_setSmall_0 (a0 : Nat) (i1 : Int32) (h : dzH) : dzF 37 0 [(0, .ref a0), (1, .int i1)] [] (0, 0) h =
  (c_Arrays_fill a0 (0 : Int32) h).bind fun h1 =>
  (dwI h1 a0 (0 : Int32) i1).bind fun h2 =>
  some (none, h2) := (dzW_at 8 37 _ _ _ _ _).trans rfl
-- PrimeCertificates$Sums.powerModulo:([I[I[I[I)V
theorem q_Sums_powerModulo_0 (a0 : Nat) (a1 : Nat) (a2 : Nat) (a3 : Nat) (a4 : Nat) (h : dzH) : dzF 38 0 [(0, .ref a0), (1, .ref a1), (2, .ref a2), (3, .ref a3), (4, .ref a4)] [] (0, 0) h =
  (c_Sums_setDivisor a0 a3 h).bind fun h1 =>
  (c_Sums_setWide a0 a1 h1).bind fun h2 =>
  (c_Sums_reduceWide a0 h2).bind fun h3 =>
  (dgA h3 a0 6 0).bind fun r4 =>
  (dgA h3 a0 6 5).bind fun r5 =>
  (c_Sums_copy r4 r5 h3).bind fun h6 =>
  (dgA h6 a0 6 0).bind fun r7 =>
  (c_Sums_setSmall r7 (1 : Int32) h6).bind fun h8 =>
  (c_Sums_reduceWide a0 h8).bind fun h9 =>
  (dgA h9 a0 6 0).bind fun r10 =>
  (dgA h9 a0 6 6).bind fun r11 =>
  (c_Sums_copy r10 r11 h9).bind fun h12 =>
  (c_Sums_usedWords a2 h12).bind fun q13 =>
  dzF 38 59 [(0, .ref a0), (1, .ref a1), (2, .ref a2), (3, .ref a3), (4, .ref a4), (5, .int (((32 : Int32) * q13.1) - (1 : Int32)))] [] (0, 0) q13.2 := (dzW_at 32 38 _ _ _ _ _).trans rfl
set_option maxRecDepth 100000 in
theorem q_Sums_powerModulo_59 (a0 : Nat) (a1 : Nat) (a2 : Nat) (a3 : Nat) (a4 : Nat) (i5 : Int32) (h : dzH) : dzF 38 59 [(0, .ref a0), (1, .ref a1), (2, .ref a2), (3, .ref a3), (4, .ref a4), (5, .int i5)] [] (0, 0) h =
  if i5 < 0 then
    (dgA h a0 6 6).bind fun r1 =>
    (c_Sums_copy r1 a4 h).bind fun h2 =>
    some (none, h2)
  else
    (dgA h a0 6 6).bind fun r1 =>
    (dgA h a0 6 6).bind fun r2 =>
    (c_Sums_setWideToProduct a0 r1 r2 h).bind fun h3 =>
    (c_Sums_reduceWide a0 h3).bind fun h4 =>
    (dgA h4 a0 6 0).bind fun r5 =>
    (dgA h4 a0 6 6).bind fun r6 =>
    (c_Sums_copy r5 r6 h4).bind fun h7 =>
    (drI h7 a2 (k_ishr i5 (5 : Int32))).bind fun v8 =>
    if ((k_iushr v8 (i5 &&& (31 : Int32))) &&& (1 : Int32)) = (1 : Int32) then
      (dgA h7 a0 6 6).bind fun r9 =>
      (dgA h7 a0 6 5).bind fun r10 =>
      (c_Sums_setWideToProduct a0 r9 r10 h7).bind fun h11 =>
      (c_Sums_reduceWide a0 h11).bind fun h12 =>
      (dgA h12 a0 6 0).bind fun r13 =>
      (dgA h12 a0 6 6).bind fun r14 =>
      (c_Sums_copy r13 r14 h12).bind fun h15 =>
      dzF 38 136 [(0, .ref a0), (1, .ref a1), (2, .ref a2), (3, .ref a3), (4, .ref a4), (5, .int i5)] [] (0, 0) h15
    else
      dzF 38 136 [(0, .ref a0), (1, .ref a1), (2, .ref a2), (3, .ref a3), (4, .ref a4), (5, .int i5)] [] (0, 0) h7 := (dzW_at 42 38 _ _ _ _ _).trans rfl
theorem q_Sums_powerModulo_136 (a0 : Nat) (a1 : Nat) (a2 : Nat) (a3 : Nat) (a4 : Nat) (i5 : Int32) (h : dzH) : dzF 38 136 [(0, .ref a0), (1, .ref a1), (2, .ref a2), (3, .ref a3), (4, .ref a4), (5, .int i5)] [] (0, 0) h =
  dzF 38 59 [(0, .ref a0), (1, .ref a1), (2, .ref a2), (3, .ref a3), (4, .ref a4), (5, .int (i5 + (-1 : Int32)))] [] (0, 0) h := (dzW_at 3 38 _ _ _ _ _).trans rfl
-- PrimeCertificates.power:(IIII)I
theorem q_P_power_0 (a0 : Nat) (i1 : Int32) (i2 : Int32) (i3 : Int32) (i4 : Int32) (h : dzH) : dzF 39 0 [(0, .ref a0), (1, .int i1), (2, .int i2), (3, .int i3), (4, .int i4)] [] (0, 0) h =
  (c_P_areRegisters i1 i2 i4 h).bind fun q1 =>
  if q1.1 = 0 then
    some (some (.int (-1 : Int32)), q1.2)
  else
    (c_P_isRegister i3 q1.2).bind fun q2 =>
    if q2.1 = 0 then
      some (some (.int (-1 : Int32)), q2.2)
    else
      (dgA q2.2 a0 0 0).bind fun r3 =>
      (drA q2.2 r3 i3).bind fun r4 =>
      (c_Sums_isZero r4 q2.2).bind fun q5 =>
      if q5.1 = 0 then
        (dgA q5.2 a0 0 3).bind fun r6 =>
        (dgA q5.2 a0 0 0).bind fun r7 =>
        (drA q5.2 r7 i1).bind fun r8 =>
        (dgA q5.2 a0 0 0).bind fun r9 =>
        (drA q5.2 r9 i2).bind fun r10 =>
        (dgA q5.2 a0 0 0).bind fun r11 =>
        (drA q5.2 r11 i3).bind fun r12 =>
        (dgA q5.2 a0 0 1).bind fun r13 =>
        (c_Sums_powerModulo r6 r8 r10 r12 r13 q5.2).bind fun h14 =>
        (c_P_keepAnswer a0 i4 h14).bind fun q15 =>
        some (some (.int q15.1), q15.2)
      else
        some (some (.int (-2 : Int32)), q5.2) := (dzW_at 35 39 _ _ _ _ _).trans rfl
-- PrimeCertificates$Sums.greatestDivisor:([I[I[I)V
theorem q_Sums_greatestDivisor_0 (a0 : Nat) (a1 : Nat) (a2 : Nat) (a3 : Nat) (h : dzH) : dzF 40 0 [(0, .ref a0), (1, .ref a1), (2, .ref a2), (3, .ref a3)] [] (0, 0) h =
  (dgA h a0 6 7).bind fun r1 =>
  (c_Sums_copy a1 r1 h).bind fun h2 =>
  (dgA h2 a0 6 8).bind fun r3 =>
  (c_Sums_copy a2 r3 h2).bind fun h4 =>
  dzF 40 19 [(0, .ref a0), (1, .ref a1), (2, .ref a2), (3, .ref a3), (4, .int (0 : Int32))] [] (0, 0) h4 := (dzW_at 11 40 _ _ _ _ _).trans rfl
theorem q_Sums_greatestDivisor_19 (a0 : Nat) (a1 : Nat) (a2 : Nat) (a3 : Nat) (i4 : Int32) (h : dzH) : dzF 40 19 [(0, .ref a0), (1, .ref a1), (2, .ref a2), (3, .ref a3), (4, .int i4)] [] (0, 0) h =
  if i4 < (1000 : Int32) then
    (dgA h a0 6 8).bind fun r1 =>
    (c_Sums_isZero r1 h).bind fun q2 =>
    if q2.1 = 0 then
      (dgA q2.2 a0 6 8).bind fun r3 =>
      (c_Sums_setDivisor a0 r3 q2.2).bind fun h4 =>
      (dgA h4 a0 6 7).bind fun r5 =>
      (c_Sums_setWide a0 r5 h4).bind fun h6 =>
      (c_Sums_reduceWide a0 h6).bind fun h7 =>
      (dgA h7 a0 6 8).bind fun r8 =>
      (dgA h7 a0 6 7).bind fun r9 =>
      (c_Sums_copy r8 r9 h7).bind fun h10 =>
      (dgA h10 a0 6 0).bind fun r11 =>
      (dgA h10 a0 6 8).bind fun r12 =>
      (c_Sums_copy r11 r12 h10).bind fun h13 =>
      dzF 40 19 [(0, .ref a0), (1, .ref a1), (2, .ref a2), (3, .ref a3), (4, .int (i4 + (1 : Int32)))] [] (0, 0) h13
    else
      dzF 40 85 [(0, .ref a0), (1, .ref a1), (2, .ref a2), (3, .ref a3), (4, .int i4)] [] (0, 0) q2.2
  else
    dzF 40 85 [(0, .ref a0), (1, .ref a1), (2, .ref a2), (3, .ref a3), (4, .int i4)] [] (0, 0) h := (dzW_at 30 40 _ _ _ _ _).trans rfl
theorem q_Sums_greatestDivisor_85 (a0 : Nat) (a1 : Nat) (a2 : Nat) (a3 : Nat) (i4 : Int32) (h : dzH) : dzF 40 85 [(0, .ref a0), (1, .ref a1), (2, .ref a2), (3, .ref a3), (4, .int i4)] [] (0, 0) h =
  (dgA h a0 6 7).bind fun r1 =>
  (c_Sums_copy r1 a3 h).bind fun h2 =>
  some (none, h2) := (dzW_at 5 40 _ _ _ _ _).trans rfl
-- PrimeCertificates.common:(III)I
theorem q_P_common_0 (a0 : Nat) (i1 : Int32) (i2 : Int32) (i3 : Int32) (h : dzH) : dzF 41 0 [(0, .ref a0), (1, .int i1), (2, .int i2), (3, .int i3)] [] (0, 0) h =
  (c_P_areRegisters i1 i2 i3 h).bind fun q1 =>
  if q1.1 = 0 then
    some (some (.int (-1 : Int32)), q1.2)
  else
    (dgA q1.2 a0 0 3).bind fun r2 =>
    (dgA q1.2 a0 0 0).bind fun r3 =>
    (drA q1.2 r3 i1).bind fun r4 =>
    (dgA q1.2 a0 0 0).bind fun r5 =>
    (drA q1.2 r5 i2).bind fun r6 =>
    (dgA q1.2 a0 0 1).bind fun r7 =>
    (c_Sums_greatestDivisor r2 r4 r6 r7 q1.2).bind fun h8 =>
    (c_P_keepAnswer a0 i3 h8).bind fun q9 =>
    some (some (.int q9.1), q9.2) := (dzW_at 22 41 _ _ _ _ _).trans rfl
-- PrimeCertificates$Sums.order:([I[I)I
theorem q_Sums_order_0 (a0 : Nat) (a1 : Nat) (h : dzH) : dzF 42 0 [(0, .ref a0), (1, .ref a1)] [] (0, 0) h =
  dzF 42 3 [(0, .ref a0), (1, .ref a1), (2, .int (7 : Int32))] [] (0, 0) h := (dzW_at 3 42 _ _ _ _ _).trans rfl
theorem q_Sums_order_3 (a0 : Nat) (a1 : Nat) (i2 : Int32) (h : dzH) : dzF 42 3 [(0, .ref a0), (1, .ref a1), (2, .int i2)] [] (0, 0) h =
  if i2 < 0 then
    some (some (.int (0 : Int32)), h)
  else
    (drI h a0 i2).bind fun v1 =>
    (drI h a1 i2).bind fun v2 =>
    if v1 = v2 then
      dzF 42 3 [(0, .ref a0), (1, .ref a1), (2, .int (i2 + (-1 : Int32)))] [] (0, 0) h
    else
      (drI h a0 i2).bind fun v3 =>
      (drI h a1 i2).bind fun v4 =>
      if (k_lcmp ((Int32.toInt64 v3) &&& (4294967295 : Int64)) ((Int32.toInt64 v4) &&& (4294967295 : Int64))) < 0 then
        some (some (.int (-1 : Int32)), h)
      else
        some (some (.int (1 : Int32)), h) := (dzW_at 26 42 _ _ _ _ _).trans rfl
-- PrimeCertificates.compare:(II)I
theorem q_P_compare_0 (a0 : Nat) (i1 : Int32) (i2 : Int32) (h : dzH) : dzF 43 0 [(0, .ref a0), (1, .int i1), (2, .int i2)] [] (0, 0) h =
  (c_P_isRegister i1 h).bind fun q1 =>
  if q1.1 = 0 then
    some (some (.int (2 : Int32)), q1.2)
  else
    (c_P_isRegister i2 q1.2).bind fun q2 =>
    if q2.1 = 0 then
      some (some (.int (2 : Int32)), q2.2)
    else
      (dgA q2.2 a0 0 0).bind fun r3 =>
      (drA q2.2 r3 i1).bind fun r4 =>
      (dgA q2.2 a0 0 0).bind fun r5 =>
      (drA q2.2 r5 i2).bind fun r6 =>
      (c_Sums_order r4 r6 q2.2).bind fun q7 =>
      some (some (.int q7.1), q7.2) := (dzW_at 16 43 _ _ _ _ _).trans rfl
-- PrimeCertificates$Tape.room:()I
theorem q_Tape_room_0 (a0 : Nat) (h : dzH) : dzF 44 0 [(0, .ref a0)] [] (0, 0) h =
  (dgI h a0 7 1).bind fun v1 =>
  some (some (.int ((4000 : Int32) - v1)), h) := (dzW_at 5 44 _ _ _ _ _).trans rfl
-- PrimeCertificates$Tape.append:(I)V
theorem q_Tape_append_0 (a0 : Nat) (i1 : Int32) (h : dzH) : dzF 45 0 [(0, .ref a0), (1, .int i1)] [] (0, 0) h =
  (dgI h a0 7 1).bind fun v1 =>
  if v1 < (4000 : Int32) then
    (dgA h a0 7 0).bind fun r2 =>
    (dgI h a0 7 1).bind fun v3 =>
    (dwI h r2 v3 i1).bind fun h4 =>
    (dgI h4 a0 7 1).bind fun v5 =>
    (dpF h4 a0 7 1 (.int (v5 + (1 : Int32)))).bind fun h6 =>
    some (none, h6)
  else
    some (none, h) := (dzW_at 17 45 _ _ _ _ _).trans rfl
-- PrimeCertificates.say:(I)I
theorem q_P_say_0 (a0 : Nat) (i1 : Int32) (h : dzH) : dzF 46 0 [(0, .ref a0), (1, .int i1)] [] (0, 0) h =
  (dgA h a0 0 4).bind fun r1 =>
  (c_Tape_room r1 h).bind fun q2 =>
  if q2.1 = 0 then
    some (some (.int (-3 : Int32)), q2.2)
  else
    (dgA q2.2 a0 0 4).bind fun r3 =>
    (c_Tape_append r3 i1 q2.2).bind fun h4 =>
    (dgA h4 a0 0 4).bind fun r5 =>
    (dgI h4 r5 7 1).bind fun v6 =>
    some (some (.int v6), h4) := (dzW_at 12 46 _ _ _ _ _).trans rfl
-- PrimeCertificates$Lines.forgetBehind:(I)V
theorem q_Lines_forgetBehind_0 (a0 : Nat) (i1 : Int32) (h : dzH) : dzF 47 0 [(0, .ref a0), (1, .int i1)] [] (0, 0) h =
  (dgI h a0 4 2).bind fun v1 =>
  if v1 ≤ 0 then
    some (none, h)
  else
    (dgA h a0 4 1).bind fun r2 =>
    (dgI h a0 4 2).bind fun v3 =>
    (drI h r2 (v3 - (1 : Int32))).bind fun v4 =>
    if v4 ≤ i1 then
      some (none, h)
    else
      (dgI h a0 4 2).bind fun v5 =>
      (dpF h a0 4 2 (.int (v5 - (1 : Int32)))).bind fun h6 =>
      dzF 47 0 [(0, .ref a0), (1, .int i1)] [] (0, 0) h6 := (dzW_at 20 47 _ _ _ _ _).trans rfl
-- PrimeCertificates.cut:(I)Z
theorem q_P_cut_0 (a0 : Nat) (i1 : Int32) (h : dzH) : dzF 48 0 [(0, .ref a0), (1, .int i1)] [] (0, 0) h =
  if i1 < 0 then
    some (some (.int (0 : Int32)), h)
  else
    (dgA h a0 0 4).bind fun r1 =>
    (dgI h r1 7 1).bind fun v2 =>
    if i1 ≤ v2 then
      (dgA h a0 0 4).bind fun r3 =>
      (dpF h r3 7 1 (.int i1)).bind fun h4 =>
      (dgA h4 a0 0 5).bind fun r5 =>
      (c_Lines_forgetBehind r5 i1 h4).bind fun h6 =>
      some (some (.int (1 : Int32)), h6)
    else
      some (some (.int (0 : Int32)), h) := (dzW_at 17 48 _ _ _ _ _).trans rfl
-- PrimeCertificates.length:()I
theorem q_P_length_0 (a0 : Nat) (h : dzH) : dzF 49 0 [(0, .ref a0)] [] (0, 0) h =
  (dgA h a0 0 4).bind fun r1 =>
  (dgI h r1 7 1).bind fun v2 =>
  some (some (.int v2), h) := (dzW_at 4 49 _ _ _ _ _).trans rfl
-- PrimeCertificates.at:(I)I
theorem q_P_at_0 (a0 : Nat) (i1 : Int32) (h : dzH) : dzF 50 0 [(0, .ref a0), (1, .int i1)] [] (0, 0) h =
  if i1 < 0 then
    some (some (.int (0 : Int32)), h)
  else
    (dgA h a0 0 4).bind fun r1 =>
    (dgI h r1 7 1).bind fun v2 =>
    if i1 < v2 then
      (dgA h a0 0 4).bind fun r3 =>
      (dgA h r3 7 0).bind fun r4 =>
      (drI h r4 i1).bind fun v5 =>
      some (some (.int v5), h)
    else
      some (some (.int (0 : Int32)), h) := (dzW_at 14 50 _ _ _ _ _).trans rfl
-- PrimeCertificates$Lines.end:()I
theorem q_Lines_end_0 (a0 : Nat) (h : dzH) : dzF 51 0 [(0, .ref a0)] [] (0, 0) h =
  (dgI h a0 4 2).bind fun v1 =>
  if v1 = 0 then
    some (some (.int (0 : Int32)), h)
  else
    (dgA h a0 4 1).bind fun r2 =>
    (dgI h a0 4 2).bind fun v3 =>
    (drI h r2 (v3 - (1 : Int32))).bind fun v4 =>
    some (some (.int v4), h) := (dzW_at 11 51 _ _ _ _ _).trans rfl
-- PrimeCertificates$Checker.refuse:(II)Z
theorem q_Checker_refuse_0 (a0 : Nat) (i1 : Int32) (i2 : Int32) (h : dzH) : dzF 52 0 [(0, .ref a0), (1, .int i1), (2, .int i2)] [] (0, 0) h =
  (dpF h a0 2 11 (.int i1)).bind fun h1 =>
  (dpF h1 a0 2 12 (.int i2)).bind fun h2 =>
  some (some (.int (0 : Int32)), h2) := (dzW_at 8 52 _ _ _ _ _).trans rfl
-- PrimeCertificates$Checker.take:()Z
theorem q_Checker_take_0 (a0 : Nat) (h : dzH) : dzF 53 0 [(0, .ref a0)] [] (0, 0) h =
  (dgI h a0 2 6).bind fun v1 =>
  (dgA h a0 2 0).bind fun r2 =>
  (dgI h r2 7 1).bind fun v3 =>
  if v1 < v3 then
    (dgA h a0 2 0).bind fun r4 =>
    (dgA h r4 7 0).bind fun r5 =>
    (dgI h a0 2 6).bind fun v6 =>
    (drI h r5 v6).bind fun v7 =>
    (dpF h a0 2 7 (.int v7)).bind fun h8 =>
    (dgI h8 a0 2 6).bind fun v9 =>
    (dpF h8 a0 2 6 (.int (v9 + (1 : Int32)))).bind fun h10 =>
    some (some (.int (1 : Int32)), h10)
  else
    (dgA h a0 2 0).bind fun r4 =>
    (dgI h r4 7 1).bind fun v5 =>
    (c_Checker_refuse a0 (1 : Int32) v5 h).bind fun q6 =>
    (dzB01 q6.1).bind fun b7 =>
    some (some (.int b7), q6.2) := (dzW_at 22 53 _ _ _ _ _).trans rfl
-- PrimeCertificates.isSmallPrime:(I)Z
theorem q_P_isSmallPrime_0 (i0 : Int32) (h : dzH) : dzF 54 0 [(0, .int i0)] [] (0, 0) h =
  dzF 54 2 [(0, .int i0), (1, .int (2 : Int32))] [] (0, 0) h := (dzW_at 3 54 _ _ _ _ _).trans rfl
theorem q_P_isSmallPrime_2 (i0 : Int32) (i1 : Int32) (h : dzH) : dzF 54 2 [(0, .int i0), (1, .int i1)] [] (0, 0) h =
  if i1 < i0 then
    if (i1 * i1) ≤ i0 then
      if i1 = 0 then none else
      if (k_irem i0 i1) = 0 then
        some (some (.int (0 : Int32)), h)
      else
        dzF 54 2 [(0, .int i0), (1, .int (i1 + (1 : Int32)))] [] (0, 0) h
    else
      dzF 54 28 [(0, .int i0), (1, .int i1)] [] (0, 0) h
  else
    dzF 54 28 [(0, .int i0), (1, .int i1)] [] (0, 0) h := (dzW_at 15 54 _ _ _ _ _).trans rfl
theorem q_P_isSmallPrime_28 (i0 : Int32) (i1 : Int32) (h : dzH) : dzF 54 28 [(0, .int i0), (1, .int i1)] [] (0, 0) h =
  if i0 < (2 : Int32) then
    some (some (.int (0 : Int32)), h)
  else
    some (some (.int (1 : Int32)), h) := (dzW_at 6 54 _ _ _ _ _).trans rfl
-- PrimeCertificates$Checker.refuseTaken:(I)Z
theorem q_Checker_refuseTaken_0 (a0 : Nat) (i1 : Int32) (h : dzH) : dzF 55 0 [(0, .ref a0), (1, .int i1)] [] (0, 0) h =
  (dgI h a0 2 6).bind fun v1 =>
  (c_Checker_refuse a0 i1 (v1 - (1 : Int32)) h).bind fun q2 =>
  (dzB01 q2.1).bind fun b3 =>
  some (some (.int b3), q2.2) := (dzW_at 8 55 _ _ _ _ _).trans rfl
-- PrimeCertificates$Checker.readSmallPrime:([I)Z
theorem q_Checker_readSmallPrime_0 (a0 : Nat) (a1 : Nat) (h : dzH) : dzF 56 0 [(0, .ref a0), (1, .ref a1)] [] (0, 0) h =
  (c_Checker_take a0 h).bind fun q1 =>
  if q1.1 = 0 then
    some (some (.int (0 : Int32)), q1.2)
  else
    (dgI q1.2 a0 2 7).bind fun v2 =>
    if v2 ≤ (65535 : Int32) then
      (dgI q1.2 a0 2 7).bind fun v3 =>
      (c_P_isSmallPrime v3 q1.2).bind fun q4 =>
      if q4.1 = 0 then
        dzF 56 28 [(0, .ref a0), (1, .ref a1)] [] (0, 0) q4.2
      else
        (dgI q4.2 a0 2 7).bind fun v5 =>
        (c_Sums_setSmall a1 v5 q4.2).bind fun h6 =>
        some (some (.int (1 : Int32)), h6)
    else
      dzF 56 28 [(0, .ref a0), (1, .ref a1)] [] (0, 0) q1.2 := (dzW_at 17 56 _ _ _ _ _).trans rfl
theorem q_Checker_readSmallPrime_28 (a0 : Nat) (a1 : Nat) (h : dzH) : dzF 56 28 [(0, .ref a0), (1, .ref a1)] [] (0, 0) h =
  (c_Checker_refuseTaken a0 (3 : Int32) h).bind fun q1 =>
  (dzB01 q1.1).bind fun b2 =>
  some (some (.int b2), q1.2) := (dzW_at 4 56 _ _ _ _ _).trans rfl
-- PrimeCertificates$Sums.isAtMost:([II)Z
theorem q_Sums_isAtMost_0 (a0 : Nat) (i1 : Int32) (h : dzH) : dzF 57 0 [(0, .ref a0), (1, .int i1)] [] (0, 0) h =
  (c_Sums_usedWords a0 h).bind fun q1 =>
  if q1.1 ≤ (1 : Int32) then
    (drI q1.2 a0 (0 : Int32)).bind fun v2 =>
    if (k_lcmp ((Int32.toInt64 v2) &&& (4294967295 : Int64)) (Int32.toInt64 i1)) ≤ 0 then
      some (some (.int (1 : Int32)), q1.2)
    else
      some (some (.int (0 : Int32)), q1.2)
  else
    some (some (.int (0 : Int32)), q1.2) := (dzW_at 17 57 _ _ _ _ _).trans rfl
-- PrimeCertificates$Checker.readNumber:([I)Z
theorem q_Checker_readNumber_0 (a0 : Nat) (a1 : Nat) (h : dzH) : dzF 58 0 [(0, .ref a0), (1, .ref a1)] [] (0, 0) h =
  (c_Checker_take a0 h).bind fun q1 =>
  if q1.1 = 0 then
    some (some (.int (0 : Int32)), q1.2)
  else
    (dgI q1.2 a0 2 6).bind fun v2 =>
    (dgI q1.2 a0 2 7).bind fun v3 =>
    if v3 < (1 : Int32) then
      dzF 58 32 [(0, .ref a0), (1, .ref a1), (2, .int (v2 - (1 : Int32))), (3, .int v3)] [] (0, 0) q1.2
    else
      if v3 ≤ (8 : Int32) then
        (c_Arrays_fill a1 (0 : Int32) q1.2).bind fun h4 =>
        dzF 58 46 [(0, .ref a0), (1, .ref a1), (2, .int (v2 - (1 : Int32))), (3, .int v3), (4, .int (0 : Int32))] [] (0, 0) h4
      else
        dzF 58 32 [(0, .ref a0), (1, .ref a1), (2, .int (v2 - (1 : Int32))), (3, .int v3)] [] (0, 0) q1.2 := (dzW_at 23 58 _ _ _ _ _).trans rfl
theorem q_Checker_readNumber_32 (a0 : Nat) (a1 : Nat) (i2 : Int32) (i3 : Int32) (h : dzH) : dzF 58 32 [(0, .ref a0), (1, .ref a1), (2, .int i2), (3, .int i3)] [] (0, 0) h =
  (c_Checker_refuseTaken a0 (2 : Int32) h).bind fun q1 =>
  (dzB01 q1.1).bind fun b2 =>
  some (some (.int b2), q1.2) := (dzW_at 4 58 _ _ _ _ _).trans rfl
theorem q_Checker_readNumber_46 (a0 : Nat) (a1 : Nat) (i2 : Int32) (i3 : Int32) (i4 : Int32) (h : dzH) : dzF 58 46 [(0, .ref a0), (1, .ref a1), (2, .int i2), (3, .int i3), (4, .int i4)] [] (0, 0) h =
  if i4 < i3 then
    (c_Checker_take a0 h).bind fun q1 =>
    if q1.1 = 0 then
      some (some (.int (0 : Int32)), q1.2)
    else
      (dgI q1.2 a0 2 7).bind fun v2 =>
      (dwI q1.2 a1 i4 v2).bind fun h3 =>
      dzF 58 46 [(0, .ref a0), (1, .ref a1), (2, .int i2), (3, .int i3), (4, .int (i4 + (1 : Int32)))] [] (0, 0) h3
  else
    (dgI h a0 2 7).bind fun v1 =>
    if v1 = 0 then
      (c_Checker_refuseTaken a0 (2 : Int32) h).bind fun q2 =>
      (dzB01 q2.1).bind fun b3 =>
      some (some (.int b3), q2.2)
    else
      (c_Sums_isAtMost a1 (2 : Int32) h).bind fun q2 =>
      if q2.1 = 0 then
        dzF 58 105 [(0, .ref a0), (1, .ref a1), (2, .int i2), (3, .int i3), (4, .int i4)] [] (0, 0) q2.2
      else
        (c_Checker_refuse a0 (4 : Int32) i2 q2.2).bind fun q3 =>
        if q3.1 = 0 then
          some (some (.int (0 : Int32)), q3.2)
        else
          dzF 58 105 [(0, .ref a0), (1, .ref a1), (2, .int i2), (3, .int i3), (4, .int i4)] [] (0, 0) q3.2 := (dzW_at 17 58 _ _ _ _ _).trans rfl
theorem q_Checker_readNumber_105 (a0 : Nat) (a1 : Nat) (i2 : Int32) (i3 : Int32) (i4 : Int32) (h : dzH) : dzF 58 105 [(0, .ref a0), (1, .ref a1), (2, .int i2), (3, .int i3), (4, .int i4)] [] (0, 0) h =
  some (some (.int (1 : Int32)), h) := (dzW_at 3 58 _ _ _ _ _).trans rfl
-- PrimeCertificates$Checker.isWitness:(I[I)Z
theorem q_Checker_isWitness_0 (i0 : Int32) (a1 : Nat) (h : dzH) : dzF 59 0 [(0, .int i0), (1, .ref a1)] [] (0, 0) h =
  if i0 < (2 : Int32) then
    some (some (.int (0 : Int32)), h)
  else
    (c_Sums_isAtMost a1 i0 h).bind fun q1 =>
    if q1.1 = 0 then
      some (some (.int (1 : Int32)), q1.2)
    else
      some (some (.int (0 : Int32)), q1.2) := (dzW_at 10 59 _ _ _ _ _).trans rfl
-- PrimeCertificates$Checker.readRoot:([I)Z
theorem q_Checker_readRoot_0 (a0 : Nat) (a1 : Nat) (h : dzH) : dzF 60 0 [(0, .ref a0), (1, .ref a1)] [] (0, 0) h =
  (c_Checker_take a0 h).bind fun q1 =>
  if q1.1 = 0 then
    some (some (.int (0 : Int32)), q1.2)
  else
    (dgI q1.2 a0 2 7).bind fun v2 =>
    (dpF q1.2 a0 2 9 (.int v2)).bind fun h3 =>
    (dgI h3 a0 2 9).bind fun v4 =>
    (c_Checker_isWitness v4 a1 h3).bind fun q5 =>
    if q5.1 = 0 then
      (c_Checker_refuseTaken a0 (8 : Int32) q5.2).bind fun q6 =>
      if q6.1 = 0 then
        some (some (.int (0 : Int32)), q6.2)
      else
        dzF 60 37 [(0, .ref a0), (1, .ref a1)] [] (0, 0) q6.2
    else
      dzF 60 37 [(0, .ref a0), (1, .ref a1)] [] (0, 0) q5.2 := (dzW_at 18 60 _ _ _ _ _).trans rfl
theorem q_Checker_readRoot_37 (a0 : Nat) (a1 : Nat) (h : dzH) : dzF 60 37 [(0, .ref a0), (1, .ref a1)] [] (0, 0) h =
  some (some (.int (1 : Int32)), h) := (dzW_at 3 60 _ _ _ _ _).trans rfl
-- PrimeCertificates$Checker.factorNumber:(I)[I
theorem q_Checker_factorNumber_0 (a0 : Nat) (i1 : Int32) (h : dzH) : dzF 61 0 [(0, .ref a0), (1, .int i1)] [] (0, 0) h =
  (dgA h a0 2 1).bind fun r1 =>
  (dgA h r1 4 0).bind fun r2 =>
  (dgA h a0 2 4).bind fun r3 =>
  (dgA h r3 3 0).bind fun r4 =>
  (drI h r4 i1).bind fun v5 =>
  (drA h r2 v5).bind fun r6 =>
  some (some (.ref r6), h) := (dzW_at 10 61 _ _ _ _ _).trans rfl
-- PrimeCertificates$Checker.readFactorLine:(II)Z
theorem q_Checker_readFactorLine_0 (a0 : Nat) (i1 : Int32) (i2 : Int32) (h : dzH) : dzF 62 0 [(0, .ref a0), (1, .int i1), (2, .int i2)] [] (0, 0) h =
  (c_Checker_take a0 h).bind fun q1 =>
  if q1.1 = 0 then
    some (some (.int (0 : Int32)), q1.2)
  else
    (dgI q1.2 a0 2 7).bind fun v2 =>
    if v2 < 0 then
      dzF 62 24 [(0, .ref a0), (1, .int i1), (2, .int i2)] [] (0, 0) q1.2
    else
      (dgI q1.2 a0 2 7).bind fun v3 =>
      if v3 < i2 then
        (dgA q1.2 a0 2 4).bind fun r4 =>
        (dgA q1.2 r4 3 0).bind fun r5 =>
        (dgI q1.2 a0 2 7).bind fun v6 =>
        (dwI q1.2 r5 i1 v6).bind fun h7 =>
        if i1 = 0 then
          dzF 62 73 [(0, .ref a0), (1, .int i1), (2, .int i2)] [] (0, 0) h7
        else
          (c_Checker_factorNumber a0 (i1 - (1 : Int32)) h7).bind fun q8 =>
          (c_Checker_factorNumber a0 i1 q8.2).bind fun q9 =>
          (c_Sums_order q8.1 q9.1 q9.2).bind fun q10 =>
          if q10.1 < 0 then
            dzF 62 73 [(0, .ref a0), (1, .int i1), (2, .int i2)] [] (0, 0) q10.2
          else
            (c_Checker_refuseTaken a0 (5 : Int32) q10.2).bind fun q11 =>
            if q11.1 = 0 then
              some (some (.int (0 : Int32)), q11.2)
            else
              dzF 62 73 [(0, .ref a0), (1, .int i1), (2, .int i2)] [] (0, 0) q11.2
      else
        dzF 62 24 [(0, .ref a0), (1, .int i1), (2, .int i2)] [] (0, 0) q1.2 := (dzW_at 35 62 _ _ _ _ _).trans rfl
theorem q_Checker_readFactorLine_24 (a0 : Nat) (i1 : Int32) (i2 : Int32) (h : dzH) : dzF 62 24 [(0, .ref a0), (1, .int i1), (2, .int i2)] [] (0, 0) h =
  (c_Checker_refuseTaken a0 (2 : Int32) h).bind fun q1 =>
  (dzB01 q1.1).bind fun b2 =>
  some (some (.int b2), q1.2) := (dzW_at 4 62 _ _ _ _ _).trans rfl
theorem q_Checker_readFactorLine_73 (a0 : Nat) (i1 : Int32) (i2 : Int32) (h : dzH) : dzF 62 73 [(0, .ref a0), (1, .int i1), (2, .int i2)] [] (0, 0) h =
  some (some (.int (1 : Int32)), h) := (dzW_at 3 62 _ _ _ _ _).trans rfl
-- PrimeCertificates$Checker.readExponent:(I)Z
theorem q_Checker_readExponent_0 (a0 : Nat) (i1 : Int32) (h : dzH) : dzF 63 0 [(0, .ref a0), (1, .int i1)] [] (0, 0) h =
  (c_Checker_take a0 h).bind fun q1 =>
  if q1.1 = 0 then
    some (some (.int (0 : Int32)), q1.2)
  else
    (dgA q1.2 a0 2 4).bind fun r2 =>
    (dgA q1.2 r2 3 1).bind fun r3 =>
    (dgI q1.2 a0 2 7).bind fun v4 =>
    (dwI q1.2 r3 i1 v4).bind fun h5 =>
    (dgI h5 a0 2 7).bind fun v6 =>
    if v6 < (1 : Int32) then
      dzF 63 40 [(0, .ref a0), (1, .int i1)] [] (0, 0) h5
    else
      (dgI h5 a0 2 7).bind fun v7 =>
      if v7 ≤ (255 : Int32) then
        dzF 63 48 [(0, .ref a0), (1, .int i1)] [] (0, 0) h5
      else
        dzF 63 40 [(0, .ref a0), (1, .int i1)] [] (0, 0) h5 := (dzW_at 19 63 _ _ _ _ _).trans rfl
theorem q_Checker_readExponent_40 (a0 : Nat) (i1 : Int32) (h : dzH) : dzF 63 40 [(0, .ref a0), (1, .int i1)] [] (0, 0) h =
  (c_Checker_refuseTaken a0 (2 : Int32) h).bind fun q1 =>
  if q1.1 = 0 then
    some (some (.int (0 : Int32)), q1.2)
  else
    dzF 63 48 [(0, .ref a0), (1, .int i1)] [] (0, 0) q1.2 := (dzW_at 6 63 _ _ _ _ _).trans rfl
theorem q_Checker_readExponent_48 (a0 : Nat) (i1 : Int32) (h : dzH) : dzF 63 48 [(0, .ref a0), (1, .int i1)] [] (0, 0) h =
  some (some (.int (1 : Int32)), h) := (dzW_at 3 63 _ _ _ _ _).trans rfl
-- PrimeCertificates$Checker.readFactors:(I)Z
theorem q_Checker_readFactors_0 (a0 : Nat) (i1 : Int32) (h : dzH) : dzF 64 0 [(0, .ref a0), (1, .int i1)] [] (0, 0) h =
  (c_Checker_take a0 h).bind fun q1 =>
  if q1.1 = 0 then
    some (some (.int (0 : Int32)), q1.2)
  else
    (dgI q1.2 a0 2 7).bind fun v2 =>
    if v2 < (1 : Int32) then
      dzF 64 26 [(0, .ref a0), (1, .int i1)] [] (0, 0) q1.2
    else
      (dgI q1.2 a0 2 7).bind fun v3 =>
      if v3 ≤ (40 : Int32) then
        (dgI q1.2 a0 2 6).bind fun v4 =>
        (dpF q1.2 a0 2 10 (.int (v4 - (1 : Int32)))).bind fun h5 =>
        (dgA h5 a0 2 4).bind fun r6 =>
        (dgI h5 a0 2 7).bind fun v7 =>
        (dpF h5 r6 3 3 (.int v7)).bind fun h8 =>
        dzF 64 55 [(0, .ref a0), (1, .int i1), (2, .int (0 : Int32))] [] (0, 0) h8
      else
        dzF 64 26 [(0, .ref a0), (1, .int i1)] [] (0, 0) q1.2 := (dzW_at 25 64 _ _ _ _ _).trans rfl
theorem q_Checker_readFactors_26 (a0 : Nat) (i1 : Int32) (h : dzH) : dzF 64 26 [(0, .ref a0), (1, .int i1)] [] (0, 0) h =
  (c_Checker_refuseTaken a0 (2 : Int32) h).bind fun q1 =>
  (dzB01 q1.1).bind fun b2 =>
  some (some (.int b2), q1.2) := (dzW_at 4 64 _ _ _ _ _).trans rfl
theorem q_Checker_readFactors_55 (a0 : Nat) (i1 : Int32) (i2 : Int32) (h : dzH) : dzF 64 55 [(0, .ref a0), (1, .int i1), (2, .int i2)] [] (0, 0) h =
  (dgA h a0 2 4).bind fun r1 =>
  (dgI h r1 3 3).bind fun v2 =>
  if i2 < v2 then
    (c_Checker_readFactorLine a0 i2 i1 h).bind fun q3 =>
    if q3.1 = 0 then
      some (some (.int (0 : Int32)), q3.2)
    else
      (c_Checker_readExponent a0 i2 q3.2).bind fun q4 =>
      if q4.1 = 0 then
        some (some (.int (0 : Int32)), q4.2)
      else
        (dgI q4.2 a0 2 8).bind fun v5 =>
        if v5 = (3 : Int32) then
          (c_Checker_take a0 q4.2).bind fun q6 =>
          if q6.1 = 0 then
            some (some (.int (0 : Int32)), q6.2)
          else
            (dgA q6.2 a0 2 4).bind fun r7 =>
            (dgA q6.2 r7 3 2).bind fun r8 =>
            (dgI q6.2 a0 2 7).bind fun v9 =>
            (dwI q6.2 r8 i2 v9).bind fun h10 =>
            dzF 64 115 [(0, .ref a0), (1, .int i1), (2, .int i2)] [] (0, 0) h10
        else
          dzF 64 115 [(0, .ref a0), (1, .int i1), (2, .int i2)] [] (0, 0) q4.2
  else
    some (some (.int (1 : Int32)), h) := (dzW_at 29 64 _ _ _ _ _).trans rfl
theorem q_Checker_readFactors_115 (a0 : Nat) (i1 : Int32) (i2 : Int32) (h : dzH) : dzF 64 115 [(0, .ref a0), (1, .int i1), (2, .int i2)] [] (0, 0) h =
  dzF 64 55 [(0, .ref a0), (1, .int i1), (2, .int (i2 + (1 : Int32)))] [] (0, 0) h := (dzW_at 3 64 _ _ _ _ _).trans rfl
-- PrimeCertificates$Checker.readLine:(I)Z
theorem q_Checker_readLine_0 (a0 : Nat) (i1 : Int32) (h : dzH) : dzF 65 0 [(0, .ref a0), (1, .int i1)] [] (0, 0) h =
  (c_Checker_take a0 h).bind fun q1 =>
  if q1.1 = 0 then
    some (some (.int (0 : Int32)), q1.2)
  else
    (dgI q1.2 a0 2 7).bind fun v2 =>
    (dpF q1.2 a0 2 8 (.int v2)).bind fun h3 =>
    (dgA h3 a0 2 1).bind fun r4 =>
    (dgA h3 r4 4 0).bind fun r5 =>
    (drA h3 r5 i1).bind fun r6 =>
    (dgI h3 a0 2 8).bind fun v7 =>
    if v7 = 1 then
      (c_Checker_readSmallPrime a0 r6 h3).bind fun q8 =>
      (dzB01 q8.1).bind fun b9 =>
      some (some (.int b9), q8.2)
    else
    if v7 = 2 then
      (c_Checker_readNumber a0 r6 h3).bind fun q8 =>
      if q8.1 = 0 then
        some (some (.int (0 : Int32)), q8.2)
      else
        (c_Checker_readRoot a0 r6 q8.2).bind fun q9 =>
        if q9.1 = 0 then
          some (some (.int (0 : Int32)), q9.2)
        else
          (c_Checker_readFactors a0 i1 q9.2).bind fun q10 =>
          if q10.1 = 0 then
            some (some (.int (0 : Int32)), q10.2)
          else
            some (some (.int (1 : Int32)), q10.2)
    else
    if v7 = 3 then
      (c_Checker_readNumber a0 r6 h3).bind fun q8 =>
      if q8.1 = 0 then
        some (some (.int (0 : Int32)), q8.2)
      else
        (c_Checker_readFactors a0 i1 q8.2).bind fun q9 =>
        if q9.1 = 0 then
          some (some (.int (0 : Int32)), q9.2)
        else
          some (some (.int (1 : Int32)), q9.2)
    else
      (c_Checker_refuseTaken a0 (2 : Int32) h3).bind fun q8 =>
      (dzB01 q8.1).bind fun b9 =>
      some (some (.int b9), q8.2) := (dzW_at 31 65 _ _ _ _ _).trans rfl
-- PrimeCertificates$Trial.begin:([I)V
theorem q_Trial_begin_0 (a0 : Nat) (a1 : Nat) (h : dzH) : dzF 66 0 [(0, .ref a0), (1, .ref a1)] [] (0, 0) h =
  (dgA h a0 8 1).bind fun r1 =>
  (c_Sums_copy a1 r1 h).bind fun h2 =>
  (dgA h2 a0 8 1).bind fun r3 =>
  (dgA h2 a0 8 3).bind fun r4 =>
  (dgA h2 a0 8 2).bind fun r5 =>
  (c_Sums_difference r3 r4 r5 h2).bind fun q6 =>
  some (none, q6.2) := (dzW_at 13 66 _ _ _ _ _).trans rfl
-- PrimeCertificates$Checker.multiplyFactors:()Z
theorem q_Checker_multiplyFactors_0 (a0 : Nat) (h : dzH) : dzF 67 0 [(0, .ref a0)] [] (0, 0) h =
  (dgA h a0 2 5).bind fun r1 =>
  (c_Sums_setSmall r1 (1 : Int32) h).bind fun h2 =>
  dzF 67 10 [(0, .ref a0), (1, .int (0 : Int32))] [] (0, 0) h2 := (dzW_at 7 67 _ _ _ _ _).trans rfl
theorem q_Checker_multiplyFactors_10 (a0 : Nat) (i1 : Int32) (h : dzH) : dzF 67 10 [(0, .ref a0), (1, .int i1)] [] (0, 0) h =
  (dgA h a0 2 4).bind fun r1 =>
  (dgI h r1 3 3).bind fun v2 =>
  if i1 < v2 then
    dzF 67 23 [(0, .ref a0), (1, .int i1), (2, .int (0 : Int32))] [] (0, 0) h
  else
    some (some (.int (1 : Int32)), h) := (dzW_at 8 67 _ _ _ _ _).trans rfl
theorem q_Checker_multiplyFactors_23 (a0 : Nat) (i1 : Int32) (i2 : Int32) (h : dzH) : dzF 67 23 [(0, .ref a0), (1, .int i1), (2, .int i2)] [] (0, 0) h =
  (dgA h a0 2 4).bind fun r1 =>
  (dgA h r1 3 1).bind fun r2 =>
  (drI h r2 i1).bind fun v3 =>
  if i2 < v3 then
    (dgA h a0 2 2).bind fun r4 =>
    (dgA h a0 2 5).bind fun r5 =>
    (c_Checker_factorNumber a0 i1 h).bind fun q6 =>
    (dgA q6.2 a0 2 5).bind fun r7 =>
    (c_Sums_product r4 r5 q6.1 r7 q6.2).bind fun q8 =>
    if q8.1 = 0 then
      some (some (.int (0 : Int32)), q8.2)
    else
      dzF 67 23 [(0, .ref a0), (1, .int i1), (2, .int (i2 + (1 : Int32)))] [] (0, 0) q8.2
  else
    dzF 67 10 [(0, .ref a0), (1, .int (i1 + (1 : Int32)))] [] (0, 0) h := (dzW_at 21 67 _ _ _ _ _).trans rfl
-- PrimeCertificates$Sums.divides:([I[I)Z
theorem q_Sums_divides_0 (a0 : Nat) (a1 : Nat) (a2 : Nat) (h : dzH) : dzF 68 0 [(0, .ref a0), (1, .ref a1), (2, .ref a2)] [] (0, 0) h =
  (c_Sums_setDivisor a0 a1 h).bind fun h1 =>
  (c_Sums_setWide a0 a2 h1).bind fun h2 =>
  (c_Sums_reduceWide a0 h2).bind fun h3 =>
  (dgA h3 a0 6 0).bind fun r4 =>
  (c_Sums_isZero r4 h3).bind fun q5 =>
  (dzB01 q5.1).bind fun b6 =>
  some (some (.int b6), q5.2) := (dzW_at 12 68 _ _ _ _ _).trans rfl
-- PrimeCertificates$Sums.squareIsAbove:([I[I)Z
theorem q_Sums_squareIsAbove_0 (a0 : Nat) (a1 : Nat) (a2 : Nat) (h : dzH) : dzF 69 0 [(0, .ref a0), (1, .ref a1), (2, .ref a2)] [] (0, 0) h =
  (c_Sums_setWideToProduct a0 a1 a1 h).bind fun h1 =>
  (dgA h1 a0 6 0).bind fun r2 =>
  (c_Sums_usedWords r2 h1).bind fun q3 =>
  if q3.1 ≤ (8 : Int32) then
    (dgA q3.2 a0 6 0).bind fun r4 =>
    (c_Sums_order r4 a2 q3.2).bind fun q5 =>
    if q5.1 ≤ 0 then
      some (some (.int (0 : Int32)), q5.2)
    else
      dzF 69 29 [(0, .ref a0), (1, .ref a1), (2, .ref a2)] [] (0, 0) q5.2
  else
    dzF 69 29 [(0, .ref a0), (1, .ref a1), (2, .ref a2)] [] (0, 0) q3.2 := (dzW_at 16 69 _ _ _ _ _).trans rfl
theorem q_Sums_squareIsAbove_29 (a0 : Nat) (a1 : Nat) (a2 : Nat) (h : dzH) : dzF 69 29 [(0, .ref a0), (1, .ref a1), (2, .ref a2)] [] (0, 0) h =
  some (some (.int (1 : Int32)), h) := (dzW_at 3 69 _ _ _ _ _).trans rfl
-- PrimeCertificates$Checker.productHolds:()Z
theorem q_Checker_productHolds_0 (a0 : Nat) (h : dzH) : dzF 70 0 [(0, .ref a0)] [] (0, 0) h =
  (c_Checker_multiplyFactors a0 h).bind fun q1 =>
  if q1.1 = 0 then
    (dgI q1.2 a0 2 10).bind fun v2 =>
    (c_Checker_refuse a0 (6 : Int32) v2 q1.2).bind fun q3 =>
    (dzB01 q3.1).bind fun b4 =>
    some (some (.int b4), q3.2)
  else
    (dgI q1.2 a0 2 8).bind fun v2 =>
    if v2 = (2 : Int32) then
      (dgA q1.2 a0 2 5).bind fun r3 =>
      (dgA q1.2 a0 2 3).bind fun r4 =>
      (dgA q1.2 r4 8 2).bind fun r5 =>
      (c_Sums_order r3 r5 q1.2).bind fun q6 =>
      if q6.1 = 0 then
        dzF 70 56 [(0, .ref a0)] [] (0, 0) q6.2
      else
        (dgI q6.2 a0 2 10).bind fun v7 =>
        (c_Checker_refuse a0 (6 : Int32) v7 q6.2).bind fun q8 =>
        if q8.1 = 0 then
          some (some (.int (0 : Int32)), q8.2)
        else
          dzF 70 56 [(0, .ref a0)] [] (0, 0) q8.2
    else
      (dgA q1.2 a0 2 2).bind fun r3 =>
      (dgA q1.2 a0 2 5).bind fun r4 =>
      (dgA q1.2 a0 2 3).bind fun r5 =>
      (dgA q1.2 r5 8 2).bind fun r6 =>
      (c_Sums_divides r3 r4 r6 q1.2).bind fun q7 =>
      if q7.1 = 0 then
        (dgI q7.2 a0 2 10).bind fun v8 =>
        (c_Checker_refuse a0 (6 : Int32) v8 q7.2).bind fun q9 =>
        (dzB01 q9.1).bind fun b10 =>
        some (some (.int b10), q9.2)
      else
        (dgA q7.2 a0 2 2).bind fun r8 =>
        (dgA q7.2 a0 2 5).bind fun r9 =>
        (dgA q7.2 a0 2 3).bind fun r10 =>
        (dgA q7.2 r10 8 1).bind fun r11 =>
        (c_Sums_squareIsAbove r8 r9 r11 q7.2).bind fun q12 =>
        if q12.1 = 0 then
          (dgI q12.2 a0 2 10).bind fun v13 =>
          (c_Checker_refuse a0 (7 : Int32) v13 q12.2).bind fun q14 =>
          if q14.1 = 0 then
            some (some (.int (0 : Int32)), q14.2)
          else
            dzF 70 128 [(0, .ref a0)] [] (0, 0) q14.2
        else
          dzF 70 128 [(0, .ref a0)] [] (0, 0) q12.2 := (dzW_at 33 70 _ _ _ _ _).trans rfl
theorem q_Checker_productHolds_56 (a0 : Nat) (h : dzH) : dzF 70 56 [(0, .ref a0)] [] (0, 0) h =
  some (some (.int (1 : Int32)), h) := (dzW_at 3 70 _ _ _ _ _).trans rfl
theorem q_Checker_productHolds_128 (a0 : Nat) (h : dzH) : dzF 70 128 [(0, .ref a0)] [] (0, 0) h =
  some (some (.int (1 : Int32)), h) := (dzW_at 3 70 _ _ _ _ _).trans rfl
-- PrimeCertificates$Sums.isOne:([I)Z
theorem q_Sums_isOne_0 (a0 : Nat) (h : dzH) : dzF 71 0 [(0, .ref a0)] [] (0, 0) h =
  (drI h a0 (0 : Int32)).bind fun v1 =>
  if v1 = (1 : Int32) then
    (c_Sums_usedWords a0 h).bind fun q2 =>
    if q2.1 = (1 : Int32) then
      some (some (.int (1 : Int32)), q2.2)
    else
      some (some (.int (0 : Int32)), q2.2)
  else
    some (some (.int (0 : Int32)), h) := (dzW_at 12 71 _ _ _ _ _).trans rfl
-- PrimeCertificates$Trial.closes:(I)Z
theorem q_Trial_closes_0 (a0 : Nat) (i1 : Int32) (h : dzH) : dzF 72 0 [(0, .ref a0), (1, .int i1)] [] (0, 0) h =
  (dgA h a0 8 4).bind fun r1 =>
  (dwI h r1 (0 : Int32) i1).bind fun h2 =>
  (dgA h2 a0 8 0).bind fun r3 =>
  (dgA h2 a0 8 4).bind fun r4 =>
  (dgA h2 a0 8 2).bind fun r5 =>
  (dgA h2 a0 8 1).bind fun r6 =>
  (dgA h2 a0 8 6).bind fun r7 =>
  (c_Sums_powerModulo r3 r4 r5 r6 r7 h2).bind fun h8 =>
  (dgA h8 a0 8 6).bind fun r9 =>
  (c_Sums_isOne r9 h8).bind fun q10 =>
  (dzB01 q10.1).bind fun b11 =>
  some (some (.int b11), q10.2) := (dzW_at 20 72 _ _ _ _ _).trans rfl
-- PrimeCertificates$Trial.parts:(I[I)Z
theorem q_Trial_parts_0 (a0 : Nat) (i1 : Int32) (a2 : Nat) (h : dzH) : dzF 73 0 [(0, .ref a0), (1, .int i1), (2, .ref a2)] [] (0, 0) h =
  (dgA h a0 8 4).bind fun r1 =>
  (dwI h r1 (0 : Int32) i1).bind fun h2 =>
  (dgA h2 a0 8 0).bind fun r3 =>
  (dgA h2 a0 8 2).bind fun r4 =>
  (dgA h2 a0 8 5).bind fun r5 =>
  (dgA h2 a0 8 6).bind fun r6 =>
  (c_Sums_quotient r3 r4 a2 r5 r6 h2).bind fun h7 =>
  (dgA h7 a0 8 0).bind fun r8 =>
  (dgA h7 a0 8 4).bind fun r9 =>
  (dgA h7 a0 8 5).bind fun r10 =>
  (dgA h7 a0 8 1).bind fun r11 =>
  (dgA h7 a0 8 6).bind fun r12 =>
  (c_Sums_powerModulo r8 r9 r10 r11 r12 h7).bind fun h13 =>
  (dgA h13 a0 8 6).bind fun r14 =>
  (c_Sums_isOne r14 h13).bind fun q15 =>
  if q15.1 = 0 then
    some (some (.int (1 : Int32)), q15.2)
  else
    some (some (.int (0 : Int32)), q15.2) := (dzW_at 33 73 _ _ _ _ _).trans rfl
-- PrimeCertificates$Checker.factorPlace:(I)I
theorem q_Checker_factorPlace_0 (a0 : Nat) (i1 : Int32) (h : dzH) : dzF 74 0 [(0, .ref a0), (1, .int i1)] [] (0, 0) h =
  (dgI h a0 2 10).bind fun v1 =>
  (dgI h a0 2 8).bind fun v2 =>
  if v2 = (3 : Int32) then
    dzF 74 20 [(0, .ref a0), (1, .int i1)] [.int (3 : Int32), .int i1, .int (v1 + (1 : Int32))] (0, 0) h
  else
    dzF 74 20 [(0, .ref a0), (1, .int i1)] [.int (2 : Int32), .int i1, .int (v1 + (1 : Int32))] (0, 0) h := (dzW_at 12 74 _ _ _ _ _).trans rfl
theorem q_Checker_factorPlace_20 (a0 : Nat) (i1 : Int32) (si0 : Int32) (si1 : Int32) (si2 : Int32) (h : dzH) : dzF 74 20 [(0, .ref a0), (1, .int i1)] [.int si2, .int si1, .int si0] (0, 0) h =
  some (some (.int (si0 + (si1 * si2))), h) := (dzW_at 3 74 _ _ _ _ _).trans rfl
-- PrimeCertificates$Checker.rootHolds:()Z
theorem q_Checker_rootHolds_0 (a0 : Nat) (h : dzH) : dzF 75 0 [(0, .ref a0)] [] (0, 0) h =
  (dgA h a0 2 3).bind fun r1 =>
  (dgI h a0 2 9).bind fun v2 =>
  (c_Trial_closes r1 v2 h).bind fun q3 =>
  if q3.1 = 0 then
    (dgI q3.2 a0 2 10).bind fun v4 =>
    (c_Checker_refuse a0 (9 : Int32) (v4 - (1 : Int32)) q3.2).bind fun q5 =>
    (dzB01 q5.1).bind fun b6 =>
    some (some (.int b6), q5.2)
  else
    dzF 75 29 [(0, .ref a0), (1, .int (0 : Int32))] [] (0, 0) q3.2 := (dzW_at 14 75 _ _ _ _ _).trans rfl
theorem q_Checker_rootHolds_29 (a0 : Nat) (i1 : Int32) (h : dzH) : dzF 75 29 [(0, .ref a0), (1, .int i1)] [] (0, 0) h =
  (dgA h a0 2 4).bind fun r1 =>
  (dgI h r1 3 3).bind fun v2 =>
  if i1 < v2 then
    (dgA h a0 2 3).bind fun r3 =>
    (dgI h a0 2 9).bind fun v4 =>
    (c_Checker_factorNumber a0 i1 h).bind fun q5 =>
    (c_Trial_parts r3 v4 q5.1 q5.2).bind fun q6 =>
    if q6.1 = 0 then
      (c_Checker_factorPlace a0 i1 q6.2).bind fun q7 =>
      (c_Checker_refuse a0 (10 : Int32) q7.1 q7.2).bind fun q8 =>
      (dzB01 q8.1).bind fun b9 =>
      some (some (.int b9), q8.2)
    else
      dzF 75 29 [(0, .ref a0), (1, .int (i1 + (1 : Int32)))] [] (0, 0) q6.2
  else
    some (some (.int (1 : Int32)), h) := (dzW_at 21 75 _ _ _ _ _).trans rfl
-- PrimeCertificates$Trial.partsEverywhere:(I[I)Z
set_option maxRecDepth 100000 in
theorem q_Trial_partsEverywhere_0 (a0 : Nat) (i1 : Int32) (a2 : Nat) (h : dzH) : dzF 76 0 [(0, .ref a0), (1, .int i1), (2, .ref a2)] [] (0, 0) h =
  (dgA h a0 8 4).bind fun r1 =>
  (dwI h r1 (0 : Int32) i1).bind fun h2 =>
  (dgA h2 a0 8 0).bind fun r3 =>
  (dgA h2 a0 8 2).bind fun r4 =>
  (dgA h2 a0 8 5).bind fun r5 =>
  (dgA h2 a0 8 6).bind fun r6 =>
  (c_Sums_quotient r3 r4 a2 r5 r6 h2).bind fun h7 =>
  (dgA h7 a0 8 0).bind fun r8 =>
  (dgA h7 a0 8 4).bind fun r9 =>
  (dgA h7 a0 8 5).bind fun r10 =>
  (dgA h7 a0 8 1).bind fun r11 =>
  (dgA h7 a0 8 6).bind fun r12 =>
  (c_Sums_powerModulo r8 r9 r10 r11 r12 h7).bind fun h13 =>
  (dgA h13 a0 8 6).bind fun r14 =>
  (dgA h13 a0 8 3).bind fun r15 =>
  (dgA h13 a0 8 6).bind fun r16 =>
  (c_Sums_difference r14 r15 r16 h13).bind fun q17 =>
  (dgA q17.2 a0 8 0).bind fun r18 =>
  (dgA q17.2 a0 8 6).bind fun r19 =>
  (dgA q17.2 a0 8 1).bind fun r20 =>
  (dgA q17.2 a0 8 6).bind fun r21 =>
  (c_Sums_greatestDivisor r18 r19 r20 r21 q17.2).bind fun h22 =>
  (dgA h22 a0 8 6).bind fun r23 =>
  (c_Sums_isOne r23 h22).bind fun q24 =>
  (dzB01 q24.1).bind fun b25 =>
  some (some (.int b25), q24.2) := (dzW_at 47 76 _ _ _ _ _).trans rfl
-- PrimeCertificates$Checker.witnessesHold:()Z
theorem q_Checker_witnessesHold_0 (a0 : Nat) (h : dzH) : dzF 77 0 [(0, .ref a0)] [] (0, 0) h =
  dzF 77 2 [(0, .ref a0), (1, .int (0 : Int32))] [] (0, 0) h := (dzW_at 3 77 _ _ _ _ _).trans rfl
theorem q_Checker_witnessesHold_2 (a0 : Nat) (i1 : Int32) (h : dzH) : dzF 77 2 [(0, .ref a0), (1, .int i1)] [] (0, 0) h =
  (dgA h a0 2 4).bind fun r1 =>
  (dgI h r1 3 3).bind fun v2 =>
  if i1 < v2 then
    (dgA h a0 2 4).bind fun r3 =>
    (dgA h r3 3 2).bind fun r4 =>
    (drI h r4 i1).bind fun v5 =>
    (dgA h a0 2 3).bind fun r6 =>
    (dgA h r6 8 1).bind fun r7 =>
    (c_Checker_isWitness v5 r7 h).bind fun q8 =>
    if q8.1 = 0 then
      (c_Checker_factorPlace a0 i1 q8.2).bind fun q9 =>
      (c_Checker_refuse a0 (8 : Int32) (q9.1 + (2 : Int32)) q9.2).bind fun q10 =>
      (dzB01 q10.1).bind fun b11 =>
      some (some (.int b11), q10.2)
    else
      dzF 77 2 [(0, .ref a0), (1, .int (i1 + (1 : Int32)))] [] (0, 0) q8.2
  else
    dzF 77 57 [(0, .ref a0), (1, .int (0 : Int32))] [] (0, 0) h := (dzW_at 24 77 _ _ _ _ _).trans rfl
theorem q_Checker_witnessesHold_57 (a0 : Nat) (i1 : Int32) (h : dzH) : dzF 77 57 [(0, .ref a0), (1, .int i1)] [] (0, 0) h =
  (dgA h a0 2 4).bind fun r1 =>
  (dgI h r1 3 3).bind fun v2 =>
  if i1 < v2 then
    (dgA h a0 2 4).bind fun r3 =>
    (dgA h r3 3 2).bind fun r4 =>
    (drI h r4 i1).bind fun v5 =>
    (dgA h a0 2 3).bind fun r6 =>
    (c_Trial_closes r6 v5 h).bind fun q7 =>
    if q7.1 = 0 then
      (c_Checker_factorPlace a0 i1 q7.2).bind fun q8 =>
      (c_Checker_refuse a0 (9 : Int32) (q8.1 + (2 : Int32)) q8.2).bind fun q9 =>
      (dzB01 q9.1).bind fun b10 =>
      some (some (.int b10), q9.2)
    else
      (dgA q7.2 a0 2 3).bind fun r8 =>
      (c_Checker_factorNumber a0 i1 q7.2).bind fun q9 =>
      (c_Trial_partsEverywhere r8 v5 q9.1 q9.2).bind fun q10 =>
      if q10.1 = 0 then
        (c_Checker_factorPlace a0 i1 q10.2).bind fun q11 =>
        (c_Checker_refuse a0 (10 : Int32) q11.1 q11.2).bind fun q12 =>
        (dzB01 q12.1).bind fun b13 =>
        some (some (.int b13), q12.2)
      else
        dzF 77 57 [(0, .ref a0), (1, .int (i1 + (1 : Int32)))] [] (0, 0) q10.2
  else
    some (some (.int (1 : Int32)), h) := (dzW_at 31 77 _ _ _ _ _).trans rfl
-- PrimeCertificates$Lines.keepNext:(I)V
theorem q_Lines_keepNext_0 (a0 : Nat) (i1 : Int32) (h : dzH) : dzF 78 0 [(0, .ref a0), (1, .int i1)] [] (0, 0) h =
  (dgI h a0 4 2).bind fun v1 =>
  if v1 < (200 : Int32) then
    (dgA h a0 4 1).bind fun r2 =>
    (dgI h a0 4 2).bind fun v3 =>
    (dwI h r2 v3 i1).bind fun h4 =>
    (dgI h4 a0 4 2).bind fun v5 =>
    (dpF h4 a0 4 2 (.int (v5 + (1 : Int32)))).bind fun h6 =>
    some (none, h6)
  else
    some (none, h) := (dzW_at 17 78 _ _ _ _ _).trans rfl
-- PrimeCertificates$Checker.findFault:()I
theorem q_Checker_findFault_0 (a0 : Nat) (h : dzH) : dzF 79 0 [(0, .ref a0)] [] (0, 0) h =
  (dpF h a0 2 11 (.int (0 : Int32))).bind fun h1 =>
  (dpF h1 a0 2 12 (.int (-2 : Int32))).bind fun h2 =>
  (dgA h2 a0 2 1).bind fun r3 =>
  (c_Lines_end r3 h2).bind fun q4 =>
  (dpF q4.2 a0 2 6 (.int q4.1)).bind fun h5 =>
  (dgA h5 a0 2 1).bind fun r6 =>
  (dgI h5 r6 4 2).bind fun v7 =>
  dzF 79 30 [(0, .ref a0), (1, .int v7)] [] (0, 0) h5 := (dzW_at 16 79 _ _ _ _ _).trans rfl
set_option maxRecDepth 100000 in
theorem q_Checker_findFault_30 (a0 : Nat) (i1 : Int32) (h : dzH) : dzF 79 30 [(0, .ref a0), (1, .int i1)] [] (0, 0) h =
  if i1 < (200 : Int32) then
    (dgI h a0 2 11).bind fun v1 =>
    if v1 = 0 then
      (dgI h a0 2 6).bind fun v2 =>
      (dgA h a0 2 0).bind fun r3 =>
      (dgI h r3 7 1).bind fun v4 =>
      if v2 < v4 then
        (c_Checker_readLine a0 i1 h).bind fun q5 =>
        if q5.1 = 0 then
          dzF 79 130 [(0, .ref a0), (1, .int i1), (2, .int q5.1)] [] (0, 0) q5.2
        else
          (dgI q5.2 a0 2 8).bind fun v6 =>
          if v6 = (1 : Int32) then
            dzF 79 130 [(0, .ref a0), (1, .int i1), (2, .int q5.1)] [] (0, 0) q5.2
          else
            (dgA q5.2 a0 2 3).bind fun r7 =>
            (dgA q5.2 a0 2 1).bind fun r8 =>
            (dgA q5.2 r8 4 0).bind fun r9 =>
            (drA q5.2 r9 i1).bind fun r10 =>
            (c_Trial_begin r7 r10 q5.2).bind fun h11 =>
            (c_Checker_productHolds a0 h11).bind fun q12 =>
            if q12.1 = 0 then
              dzF 79 128 [(0, .ref a0), (1, .int i1), (2, .int q5.1)] [] (0, 0) q12.2
            else
              (dgI q12.2 a0 2 8).bind fun v13 =>
              if v13 = (2 : Int32) then
                (c_Checker_rootHolds a0 q12.2).bind fun q14 =>
                if q14.1 = 0 then
                  dzF 79 128 [(0, .ref a0), (1, .int i1), (2, .int q5.1)] [] (0, 0) q14.2
                else
                  dzF 79 124 [(0, .ref a0), (1, .int i1), (2, .int q5.1)] [] (0, 0) q14.2
              else
                (c_Checker_witnessesHold a0 q12.2).bind fun q14 =>
                if q14.1 = 0 then
                  dzF 79 128 [(0, .ref a0), (1, .int i1), (2, .int q5.1)] [] (0, 0) q14.2
                else
                  dzF 79 124 [(0, .ref a0), (1, .int i1), (2, .int q5.1)] [] (0, 0) q14.2
      else
        dzF 79 151 [(0, .ref a0), (1, .int i1)] [] (0, 0) h
    else
      dzF 79 151 [(0, .ref a0), (1, .int i1)] [] (0, 0) h
  else
    dzF 79 151 [(0, .ref a0), (1, .int i1)] [] (0, 0) h := (dzW_at 42 79 _ _ _ _ _).trans rfl
theorem q_Checker_findFault_124 (a0 : Nat) (i1 : Int32) (i2 : Int32) (h : dzH) : dzF 79 124 [(0, .ref a0), (1, .int i1), (2, .int i2)] [] (0, 0) h =
  dzF 79 129 [(0, .ref a0), (1, .int i1), (2, .int i2)] [.int (1 : Int32)] (0, 0) h := (dzW_at 3 79 _ _ _ _ _).trans rfl
theorem q_Checker_findFault_128 (a0 : Nat) (i1 : Int32) (i2 : Int32) (h : dzH) : dzF 79 128 [(0, .ref a0), (1, .int i1), (2, .int i2)] [] (0, 0) h =
  dzF 79 129 [(0, .ref a0), (1, .int i1), (2, .int i2)] [.int (0 : Int32)] (0, 0) h := (dzW_at 2 79 _ _ _ _ _).trans rfl
theorem q_Checker_findFault_129 (a0 : Nat) (i1 : Int32) (i2 : Int32) (si0 : Int32) (h : dzH) : dzF 79 129 [(0, .ref a0), (1, .int i1), (2, .int i2)] [.int si0] (0, 0) h =
  dzF 79 130 [(0, .ref a0), (1, .int i1), (2, .int si0)] [] (0, 0) h := (dzW_at 2 79 _ _ _ _ _).trans rfl
theorem q_Checker_findFault_130 (a0 : Nat) (i1 : Int32) (i2 : Int32) (h : dzH) : dzF 79 130 [(0, .ref a0), (1, .int i1), (2, .int i2)] [] (0, 0) h =
  if i2 = 0 then
    dzF 79 145 [(0, .ref a0), (1, .int i1), (2, .int i2)] [] (0, 0) h
  else
    (dgA h a0 2 1).bind fun r1 =>
    (dgI h a0 2 6).bind fun v2 =>
    (c_Lines_keepNext r1 v2 h).bind fun h3 =>
    dzF 79 145 [(0, .ref a0), (1, .int i1), (2, .int i2)] [] (0, 0) h3 := (dzW_at 8 79 _ _ _ _ _).trans rfl
theorem q_Checker_findFault_145 (a0 : Nat) (i1 : Int32) (i2 : Int32) (h : dzH) : dzF 79 145 [(0, .ref a0), (1, .int i1), (2, .int i2)] [] (0, 0) h =
  dzF 79 30 [(0, .ref a0), (1, .int (i1 + (1 : Int32)))] [] (0, 0) h := (dzW_at 3 79 _ _ _ _ _).trans rfl
theorem q_Checker_findFault_151 (a0 : Nat) (i1 : Int32) (h : dzH) : dzF 79 151 [(0, .ref a0), (1, .int i1)] [] (0, 0) h =
  (dgI h a0 2 11).bind fun v1 =>
  if v1 = 0 then
    (dgI h a0 2 6).bind fun v2 =>
    (dgA h a0 2 0).bind fun r3 =>
    (dgI h r3 7 1).bind fun v4 =>
    if v2 < v4 then
      (dgI h a0 2 6).bind fun v5 =>
      (c_Checker_refuse a0 (2 : Int32) v5 h).bind fun q6 =>
      dzF 79 182 [(0, .ref a0), (1, .int i1)] [] (0, 0) q6.2
    else
      dzF 79 182 [(0, .ref a0), (1, .int i1)] [] (0, 0) h
  else
    dzF 79 182 [(0, .ref a0), (1, .int i1)] [] (0, 0) h := (dzW_at 16 79 _ _ _ _ _).trans rfl
theorem q_Checker_findFault_182 (a0 : Nat) (i1 : Int32) (h : dzH) : dzF 79 182 [(0, .ref a0), (1, .int i1)] [] (0, 0) h =
  (dgA h a0 2 1).bind fun r1 =>
  (dgI h a0 2 11).bind fun v2 =>
  if v2 = 0 then
    (dgA h a0 2 1).bind fun r3 =>
    (dgI h r3 4 2).bind fun v4 =>
    dzF 79 204 [(0, .ref a0), (1, .int i1)] [.int v4, .ref r1] (0, 0) h
  else
    dzF 79 204 [(0, .ref a0), (1, .int i1)] [.int (0 : Int32), .ref r1] (0, 0) h := (dzW_at 10 79 _ _ _ _ _).trans rfl
theorem q_Checker_findFault_204 (a0 : Nat) (i1 : Int32) (sa0 : Nat) (si1 : Int32) (h : dzH) : dzF 79 204 [(0, .ref a0), (1, .int i1)] [.int si1, .ref sa0] (0, 0) h =
  (dpF h sa0 4 3 (.int si1)).bind fun h1 =>
  (dgI h1 a0 2 11).bind fun v2 =>
  some (some (.int v2), h1) := (dzW_at 4 79 _ _ _ _ _).trans rfl
-- PrimeCertificates.check:()I
theorem q_P_check_0 (a0 : Nat) (h : dzH) : dzF 80 0 [(0, .ref a0)] [] (0, 0) h =
  (dgA h a0 0 6).bind fun r1 =>
  (c_Checker_findFault r1 h).bind fun q2 =>
  if q2.1 = 0 then
    (dgA q2.2 a0 0 5).bind fun r3 =>
    (dgI q2.2 r3 4 2).bind fun v4 =>
    some (some (.int v4), q2.2)
  else
    some (some (.int ((-100 : Int32) - q2.1)), q2.2) := (dzW_at 11 80 _ _ _ _ _).trans rfl
-- PrimeCertificates.place:()I
theorem q_P_place_0 (a0 : Nat) (h : dzH) : dzF 81 0 [(0, .ref a0)] [] (0, 0) h =
  (dgA h a0 0 6).bind fun r1 =>
  (dgI h r1 2 12).bind fun v2 =>
  some (some (.int v2), h) := (dzW_at 4 81 _ _ _ _ _).trans rfl
-- PrimeCertificates.tell:(II)Z
theorem q_P_tell_0 (a0 : Nat) (i1 : Int32) (i2 : Int32) (h : dzH) : dzF 82 0 [(0, .ref a0), (1, .int i1), (2, .int i2)] [] (0, 0) h =
  if i1 < 0 then
    some (some (.int (0 : Int32)), h)
  else
    (dgA h a0 0 5).bind fun r1 =>
    (dgI h r1 4 3).bind fun v2 =>
    if i1 < v2 then
      (c_P_isRegister i2 h).bind fun q3 =>
      if q3.1 = 0 then
        some (some (.int (0 : Int32)), q3.2)
      else
        (dgA q3.2 a0 0 5).bind fun r4 =>
        (dgA q3.2 r4 4 0).bind fun r5 =>
        (drA q3.2 r5 i1).bind fun r6 =>
        (dgA q3.2 a0 0 0).bind fun r7 =>
        (drA q3.2 r7 i2).bind fun r8 =>
        (c_Sums_copy r6 r8 q3.2).bind fun h9 =>
        some (some (.int (1 : Int32)), h9)
    else
      some (some (.int (0 : Int32)), h) := (dzW_at 22 82 _ _ _ _ _).trans rfl
-- PrimeCertificates$Lines.lineOf:([I)I
theorem q_Lines_lineOf_0 (a0 : Nat) (a1 : Nat) (h : dzH) : dzF 83 0 [(0, .ref a0), (1, .ref a1)] [] (0, 0) h =
  dzF 83 2 [(0, .ref a0), (1, .ref a1), (2, .int (0 : Int32))] [] (0, 0) h := (dzW_at 3 83 _ _ _ _ _).trans rfl
theorem q_Lines_lineOf_2 (a0 : Nat) (a1 : Nat) (i2 : Int32) (h : dzH) : dzF 83 2 [(0, .ref a0), (1, .ref a1), (2, .int i2)] [] (0, 0) h =
  (dgI h a0 4 2).bind fun v1 =>
  if i2 < v1 then
    (dgA h a0 4 0).bind fun r2 =>
    (drA h r2 i2).bind fun r3 =>
    (c_Sums_order r3 a1 h).bind fun q4 =>
    if q4.1 = 0 then
      some (some (.int i2), q4.2)
    else
      dzF 83 2 [(0, .ref a0), (1, .ref a1), (2, .int (i2 + (1 : Int32)))] [] (0, 0) q4.2
  else
    some (some (.int (-2 : Int32)), h) := (dzW_at 14 83 _ _ _ _ _).trans rfl
-- PrimeCertificates$Maker.planSmallLine:([I)Z
theorem q_Maker_planSmallLine_0 (a0 : Nat) (a1 : Nat) (h : dzH) : dzF 84 0 [(0, .ref a0), (1, .ref a1)] [] (0, 0) h =
  (dgA h a0 5 1).bind fun r1 =>
  (dgI h r1 4 2).bind fun v2 =>
  (dgI h a0 5 9).bind fun v3 =>
  if (v2 + v3) < (200 : Int32) then
    (dgA h a0 5 1).bind fun r4 =>
    (dgA h r4 4 0).bind fun r5 =>
    (dgA h a0 5 1).bind fun r6 =>
    (dgI h r6 4 2).bind fun v7 =>
    (dgI h a0 5 9).bind fun v8 =>
    (drA h r5 (v7 + v8)).bind fun r9 =>
    (c_Sums_copy a1 r9 h).bind fun h10 =>
    (dgI h10 a0 5 9).bind fun v11 =>
    (dpF h10 a0 5 9 (.int (v11 + (1 : Int32)))).bind fun h12 =>
    some (some (.int (1 : Int32)), h12)
  else
    some (some (.int (0 : Int32)), h) := (dzW_at 28 84 _ _ _ _ _).trans rfl
-- PrimeCertificates$Maker.hasRoom:(I)Z
theorem q_Maker_hasRoom_0 (a0 : Nat) (i1 : Int32) (h : dzH) : dzF 85 0 [(0, .ref a0), (1, .int i1)] [] (0, 0) h =
  if i1 = 0 then
    dzF 85 9 [(0, .ref a0), (1, .int i1)] [.int (0 : Int32)] (0, 0) h
  else
    dzF 85 9 [(0, .ref a0), (1, .int i1)] [.int (1 : Int32)] (0, 0) h := (dzW_at 5 85 _ _ _ _ _).trans rfl
theorem q_Maker_hasRoom_9 (a0 : Nat) (i1 : Int32) (si0 : Int32) (h : dzH) : dzF 85 9 [(0, .ref a0), (1, .int i1)] [.int si0] (0, 0) h =
  (dgA h a0 5 1).bind fun r1 =>
  (dgI h r1 4 2).bind fun v2 =>
  (dgI h a0 5 9).bind fun v3 =>
  if ((v2 + v3) + si0) ≤ (200 : Int32) then
    (dgI h a0 5 9).bind fun v4 =>
    (dgA h a0 5 0).bind fun r5 =>
    (c_Tape_room r5 h).bind fun q6 =>
    if (((2 : Int32) * v4) + i1) ≤ q6.1 then
      some (some (.int (1 : Int32)), q6.2)
    else
      some (some (.int (0 : Int32)), q6.2)
  else
    some (some (.int (0 : Int32)), h) := (dzW_at 24 85 _ _ _ _ _).trans rfl
-- PrimeCertificates$Maker.writeSmallLines:()I
theorem q_Maker_writeSmallLines_0 (a0 : Nat) (h : dzH) : dzF 86 0 [(0, .ref a0)] [] (0, 0) h =
  dzF 86 2 [(0, .ref a0), (1, .int (0 : Int32))] [] (0, 0) h := (dzW_at 3 86 _ _ _ _ _).trans rfl
theorem q_Maker_writeSmallLines_2 (a0 : Nat) (i1 : Int32) (h : dzH) : dzF 86 2 [(0, .ref a0), (1, .int i1)] [] (0, 0) h =
  (dgI h a0 5 9).bind fun v1 =>
  if i1 < v1 then
    (dgA h a0 5 0).bind fun r2 =>
    (c_Tape_append r2 (1 : Int32) h).bind fun h3 =>
    (dgA h3 a0 5 0).bind fun r4 =>
    (dgA h3 a0 5 1).bind fun r5 =>
    (dgA h3 r5 4 0).bind fun r6 =>
    (dgA h3 a0 5 1).bind fun r7 =>
    (dgI h3 r7 4 2).bind fun v8 =>
    (drA h3 r6 v8).bind fun r9 =>
    (drI h3 r9 (0 : Int32)).bind fun v10 =>
    (c_Tape_append r4 v10 h3).bind fun h11 =>
    (dgA h11 a0 5 1).bind fun r12 =>
    (dgA h11 a0 5 0).bind fun r13 =>
    (dgI h11 r13 7 1).bind fun v14 =>
    (c_Lines_keepNext r12 v14 h11).bind fun h15 =>
    dzF 86 2 [(0, .ref a0), (1, .int (i1 + (1 : Int32)))] [] (0, 0) h15
  else
    (dgA h a0 5 1).bind fun r2 =>
    (dgI h r2 4 2).bind fun v3 =>
    some (some (.int (v3 - (1 : Int32))), h) := (dzW_at 29 86 _ _ _ _ _).trans rfl
-- PrimeCertificates$Maker.divideOut:([I)I
theorem q_Maker_divideOut_0 (a0 : Nat) (a1 : Nat) (h : dzH) : dzF 87 0 [(0, .ref a0), (1, .ref a1)] [] (0, 0) h =
  dzF 87 4 [(0, .ref a0), (1, .ref a1), (2, .int (0 : Int32)), (3, .int (1 : Int32))] [] (0, 0) h := (dzW_at 5 87 _ _ _ _ _).trans rfl
theorem q_Maker_divideOut_4 (a0 : Nat) (a1 : Nat) (i2 : Int32) (i3 : Int32) (h : dzH) : dzF 87 4 [(0, .ref a0), (1, .ref a1), (2, .int i2), (3, .int i3)] [] (0, 0) h =
  if i3 = 0 then
    some (some (.int i2), h)
  else
    if i2 < (255 : Int32) then
      (dgA h a0 5 2).bind fun r1 =>
      (dgA h a0 5 5).bind fun r2 =>
      (dgA h a0 5 6).bind fun r3 =>
      (dgA h a0 5 7).bind fun r4 =>
      (c_Sums_quotient r1 r2 a1 r3 r4 h).bind fun h5 =>
      (dgA h5 a0 5 7).bind fun r6 =>
      (c_Sums_isZero r6 h5).bind fun q7 =>
      if q7.1 = 0 then
        dzF 87 4 [(0, .ref a0), (1, .ref a1), (2, .int i2), (3, .int q7.1)] [] (0, 0) q7.2
      else
        (dgA q7.2 a0 5 6).bind fun r8 =>
        (dgA q7.2 a0 5 5).bind fun r9 =>
        (c_Sums_copy r8 r9 q7.2).bind fun h10 =>
        dzF 87 4 [(0, .ref a0), (1, .ref a1), (2, .int (i2 + (1 : Int32))), (3, .int q7.1)] [] (0, 0) h10
    else
      some (some (.int i2), h) := (dzW_at 29 87 _ _ _ _ _).trans rfl
-- PrimeCertificates$Maker.factorNumber:(I)[I
theorem q_Maker_factorNumber_0 (a0 : Nat) (i1 : Int32) (h : dzH) : dzF 88 0 [(0, .ref a0), (1, .int i1)] [] (0, 0) h =
  (dgA h a0 5 1).bind fun r1 =>
  (dgA h r1 4 0).bind fun r2 =>
  (dgA h a0 5 4).bind fun r3 =>
  (dgA h r3 3 0).bind fun r4 =>
  (drI h r4 i1).bind fun v5 =>
  (drA h r2 v5).bind fun r6 =>
  some (some (.ref r6), h) := (dzW_at 10 88 _ _ _ _ _).trans rfl
-- PrimeCertificates$Maker.insertFactor:(II)Z
theorem q_Maker_insertFactor_0 (a0 : Nat) (i1 : Int32) (i2 : Int32) (h : dzH) : dzF 89 0 [(0, .ref a0), (1, .int i1), (2, .int i2)] [] (0, 0) h =
  (dgA h a0 5 4).bind fun r1 =>
  (dgI h r1 3 3).bind fun v2 =>
  if v2 < (40 : Int32) then
    (dgA h a0 5 4).bind fun r3 =>
    (dgI h r3 3 3).bind fun v4 =>
    dzF 89 22 [(0, .ref a0), (1, .int i1), (2, .int i2), (3, .int v4)] [] (0, 0) h
  else
    some (some (.int (0 : Int32)), h) := (dzW_at 10 89 _ _ _ _ _).trans rfl
set_option maxRecDepth 100000 in
theorem q_Maker_insertFactor_22 (a0 : Nat) (i1 : Int32) (i2 : Int32) (i3 : Int32) (h : dzH) : dzF 89 22 [(0, .ref a0), (1, .int i1), (2, .int i2), (3, .int i3)] [] (0, 0) h =
  if i3 ≤ 0 then
    dzF 89 94 [(0, .ref a0), (1, .int i1), (2, .int i2), (3, .int i3)] [] (0, 0) h
  else
    (c_Maker_factorNumber a0 (i3 - (1 : Int32)) h).bind fun q1 =>
    (dgA q1.2 a0 5 1).bind fun r2 =>
    (dgA q1.2 r2 4 0).bind fun r3 =>
    (drA q1.2 r3 i1).bind fun r4 =>
    (c_Sums_order q1.1 r4 q1.2).bind fun q5 =>
    if q5.1 ≤ 0 then
      dzF 89 94 [(0, .ref a0), (1, .int i1), (2, .int i2), (3, .int i3)] [] (0, 0) q5.2
    else
      (dgA q5.2 a0 5 4).bind fun r6 =>
      (dgA q5.2 r6 3 0).bind fun r7 =>
      (dgA q5.2 a0 5 4).bind fun r8 =>
      (dgA q5.2 r8 3 0).bind fun r9 =>
      (drI q5.2 r9 (i3 - (1 : Int32))).bind fun v10 =>
      (dwI q5.2 r7 i3 v10).bind fun h11 =>
      (dgA h11 a0 5 4).bind fun r12 =>
      (dgA h11 r12 3 1).bind fun r13 =>
      (dgA h11 a0 5 4).bind fun r14 =>
      (dgA h11 r14 3 1).bind fun r15 =>
      (drI h11 r15 (i3 - (1 : Int32))).bind fun v16 =>
      (dwI h11 r13 i3 v16).bind fun h17 =>
      dzF 89 22 [(0, .ref a0), (1, .int i1), (2, .int i2), (3, .int (i3 + (-1 : Int32)))] [] (0, 0) h17 := (dzW_at 41 89 _ _ _ _ _).trans rfl
theorem q_Maker_insertFactor_94 (a0 : Nat) (i1 : Int32) (i2 : Int32) (i3 : Int32) (h : dzH) : dzF 89 94 [(0, .ref a0), (1, .int i1), (2, .int i2), (3, .int i3)] [] (0, 0) h =
  (dgA h a0 5 4).bind fun r1 =>
  (dgA h r1 3 0).bind fun r2 =>
  (dwI h r2 i3 i1).bind fun h3 =>
  (dgA h3 a0 5 4).bind fun r4 =>
  (dgA h3 r4 3 1).bind fun r5 =>
  (dwI h3 r5 i3 i2).bind fun h6 =>
  (dgA h6 a0 5 4).bind fun r7 =>
  (dgI h6 r7 3 3).bind fun v8 =>
  (dpF h6 r7 3 3 (.int (v8 + (1 : Int32)))).bind fun h9 =>
  some (some (.int (1 : Int32)), h9) := (dzW_at 21 89 _ _ _ _ _).trans rfl
-- PrimeCertificates$Maker.insertPrime:(I)Z
theorem q_Maker_insertPrime_0 (a0 : Nat) (i1 : Int32) (h : dzH) : dzF 90 0 [(0, .ref a0), (1, .int i1)] [] (0, 0) h =
  (dgA h a0 5 1).bind fun r1 =>
  (dgA h a0 5 8).bind fun r2 =>
  (c_Lines_lineOf r1 r2 h).bind fun q3 =>
  if q3.1 = (-2 : Int32) then
    (dgA q3.2 a0 5 8).bind fun r4 =>
    (c_Maker_planSmallLine a0 r4 q3.2).bind fun q5 =>
    if q5.1 = 0 then
      some (some (.int (0 : Int32)), q5.2)
    else
      (dgA q5.2 a0 5 1).bind fun r6 =>
      (dgI q5.2 r6 4 2).bind fun v7 =>
      (dgI q5.2 a0 5 9).bind fun v8 =>
      (c_Maker_insertFactor a0 ((v7 + v8) - (1 : Int32)) i1 q5.2).bind fun q9 =>
      if q9.1 = 0 then
        some (some (.int (0 : Int32)), q9.2)
      else
        some (some (.int (1 : Int32)), q9.2)
  else
    (c_Maker_insertFactor a0 q3.1 i1 q3.2).bind fun q4 =>
    (dzB01 q4.1).bind fun b5 =>
    some (some (.int b5), q4.2) := (dzW_at 29 90 _ _ _ _ _).trans rfl
-- PrimeCertificates$Maker.findFactors:()Z
theorem q_Maker_findFactors_0 (a0 : Nat) (h : dzH) : dzF 91 0 [(0, .ref a0)] [] (0, 0) h =
  (dgA h a0 5 4).bind fun r1 =>
  (dpF h r1 3 3 (.int (0 : Int32))).bind fun h2 =>
  (dgA h2 a0 5 3).bind fun r3 =>
  (dgA h2 r3 8 2).bind fun r4 =>
  (dgA h2 a0 5 5).bind fun r5 =>
  (c_Sums_copy r4 r5 h2).bind fun h6 =>
  dzF 91 24 [(0, .ref a0), (1, .int (2 : Int32))] [] (0, 0) h6 := (dzW_at 13 91 _ _ _ _ _).trans rfl
theorem q_Maker_findFactors_24 (a0 : Nat) (i1 : Int32) (h : dzH) : dzF 91 24 [(0, .ref a0), (1, .int i1)] [] (0, 0) h =
  if i1 ≤ (1009 : Int32) then
    (c_P_isSmallPrime i1 h).bind fun q1 =>
    if q1.1 = 0 then
      dzF 91 69 [(0, .ref a0), (1, .int i1)] [] (0, 0) q1.2
    else
      (dgA q1.2 a0 5 8).bind fun r2 =>
      (c_Sums_setSmall r2 i1 q1.2).bind fun h3 =>
      (dgA h3 a0 5 8).bind fun r4 =>
      (c_Maker_divideOut a0 r4 h3).bind fun q5 =>
      if q5.1 ≤ 0 then
        dzF 91 69 [(0, .ref a0), (1, .int i1)] [] (0, 0) q5.2
      else
        (c_Maker_insertPrime a0 q5.1 q5.2).bind fun q6 =>
        if q6.1 = 0 then
          some (some (.int (0 : Int32)), q6.2)
        else
          dzF 91 69 [(0, .ref a0), (1, .int i1)] [] (0, 0) q6.2
  else
    dzF 91 77 [(0, .ref a0), (1, .int (0 : Int32))] [] (0, 0) h := (dzW_at 23 91 _ _ _ _ _).trans rfl
theorem q_Maker_findFactors_69 (a0 : Nat) (i1 : Int32) (h : dzH) : dzF 91 69 [(0, .ref a0), (1, .int i1)] [] (0, 0) h =
  dzF 91 24 [(0, .ref a0), (1, .int (i1 + (1 : Int32)))] [] (0, 0) h := (dzW_at 3 91 _ _ _ _ _).trans rfl
theorem q_Maker_findFactors_77 (a0 : Nat) (i1 : Int32) (h : dzH) : dzF 91 77 [(0, .ref a0), (1, .int i1)] [] (0, 0) h =
  (dgA h a0 5 1).bind fun r1 =>
  (dgI h r1 4 2).bind fun v2 =>
  if i1 < v2 then
    (dgA h a0 5 1).bind fun r3 =>
    (dgA h r3 4 0).bind fun r4 =>
    (drA h r4 i1).bind fun r5 =>
    (c_Sums_isAtMost r5 (1009 : Int32) h).bind fun q6 =>
    if q6.1 = 0 then
      (c_Maker_divideOut a0 r5 q6.2).bind fun q7 =>
      dzF 91 117 [(0, .ref a0), (1, .int i1), (2, .ref r5)] [.int q7.1] (0, 0) q7.2
    else
      dzF 91 117 [(0, .ref a0), (1, .int i1), (2, .ref r5)] [.int (0 : Int32)] (0, 0) q6.2
  else
    some (some (.int (1 : Int32)), h) := (dzW_at 19 91 _ _ _ _ _).trans rfl
theorem q_Maker_findFactors_117 (a0 : Nat) (i1 : Int32) (a2 : Nat) (si0 : Int32) (h : dzH) : dzF 91 117 [(0, .ref a0), (1, .int i1), (2, .ref a2)] [.int si0] (0, 0) h =
  if si0 ≤ 0 then
    dzF 91 133 [(0, .ref a0), (1, .int i1), (2, .ref a2), (3, .int si0)] [] (0, 0) h
  else
    (c_Maker_insertFactor a0 i1 si0 h).bind fun q1 =>
    if q1.1 = 0 then
      some (some (.int (0 : Int32)), q1.2)
    else
      dzF 91 133 [(0, .ref a0), (1, .int i1), (2, .ref a2), (3, .int si0)] [] (0, 0) q1.2 := (dzW_at 10 91 _ _ _ _ _).trans rfl
theorem q_Maker_findFactors_133 (a0 : Nat) (i1 : Int32) (a2 : Nat) (i3 : Int32) (h : dzH) : dzF 91 133 [(0, .ref a0), (1, .int i1), (2, .ref a2), (3, .int i3)] [] (0, 0) h =
  dzF 91 77 [(0, .ref a0), (1, .int (i1 + (1 : Int32)))] [] (0, 0) h := (dzW_at 3 91 _ _ _ _ _).trans rfl
-- PrimeCertificates$Maker.lastLineInts:(Z)I
theorem q_Maker_lastLineInts_0 (a0 : Nat) (i1 : Int32) (h : dzH) : dzF 92 0 [(0, .ref a0), (1, .int i1)] [] (0, 0) h =
  (dgA h a0 5 3).bind fun r1 =>
  (dgA h r1 8 1).bind fun r2 =>
  (c_Sums_usedWords r2 h).bind fun q3 =>
  if i1 = 0 then
    (dgA q3.2 a0 5 4).bind fun r4 =>
    (dgI q3.2 r4 3 3).bind fun v5 =>
    some (some (.int (((3 : Int32) + q3.1) + ((3 : Int32) * v5))), q3.2)
  else
    (dgA q3.2 a0 5 4).bind fun r4 =>
    (dgI q3.2 r4 3 3).bind fun v5 =>
    some (some (.int (((4 : Int32) + q3.1) + ((2 : Int32) * v5))), q3.2) := (dzW_at 18 92 _ _ _ _ _).trans rfl
-- PrimeCertificates$Maker.factorsSuffice:()Z
theorem q_Maker_factorsSuffice_0 (a0 : Nat) (h : dzH) : dzF 93 0 [(0, .ref a0)] [] (0, 0) h =
  (dgA h a0 5 2).bind fun r1 =>
  (dgA h a0 5 3).bind fun r2 =>
  (dgA h r2 8 2).bind fun r3 =>
  (dgA h a0 5 5).bind fun r4 =>
  (dgA h a0 5 6).bind fun r5 =>
  (dgA h a0 5 7).bind fun r6 =>
  (c_Sums_quotient r1 r3 r4 r5 r6 h).bind fun h7 =>
  (dgA h7 a0 5 2).bind fun r8 =>
  (dgA h7 a0 5 6).bind fun r9 =>
  (dgA h7 a0 5 3).bind fun r10 =>
  (dgA h7 r10 8 1).bind fun r11 =>
  (c_Sums_squareIsAbove r8 r9 r11 h7).bind fun q12 =>
  (dzB01 q12.1).bind fun b13 =>
  some (some (.int b13), q12.2) := (dzW_at 21 93 _ _ _ _ _).trans rfl
-- PrimeCertificates$Maker.findRoot:()Z
theorem q_Maker_findRoot_0 (a0 : Nat) (h : dzH) : dzF 94 0 [(0, .ref a0)] [] (0, 0) h =
  dzF 94 2 [(0, .ref a0), (1, .int (2 : Int32))] [] (0, 0) h := (dzW_at 3 94 _ _ _ _ _).trans rfl
theorem q_Maker_findRoot_2 (a0 : Nat) (i1 : Int32) (h : dzH) : dzF 94 2 [(0, .ref a0), (1, .int i1)] [] (0, 0) h =
  if i1 ≤ (200 : Int32) then
    dzF 94 11 [(0, .ref a0), (1, .int i1), (2, .int (0 : Int32))] [] (0, 0) h
  else
    some (some (.int (0 : Int32)), h) := (dzW_at 6 94 _ _ _ _ _).trans rfl
theorem q_Maker_findRoot_11 (a0 : Nat) (i1 : Int32) (i2 : Int32) (h : dzH) : dzF 94 11 [(0, .ref a0), (1, .int i1), (2, .int i2)] [] (0, 0) h =
  (dgA h a0 5 4).bind fun r1 =>
  (dgI h r1 3 3).bind fun v2 =>
  if i2 < v2 then
    (dgA h a0 5 3).bind fun r3 =>
    (c_Maker_factorNumber a0 i2 h).bind fun q4 =>
    (c_Trial_parts r3 i1 q4.1 q4.2).bind fun q5 =>
    if q5.1 = 0 then
      dzF 94 44 [(0, .ref a0), (1, .int i1), (2, .int i2)] [] (0, 0) q5.2
    else
      dzF 94 11 [(0, .ref a0), (1, .int i1), (2, .int (i2 + (1 : Int32)))] [] (0, 0) q5.2
  else
    dzF 94 44 [(0, .ref a0), (1, .int i1), (2, .int i2)] [] (0, 0) h := (dzW_at 16 94 _ _ _ _ _).trans rfl
theorem q_Maker_findRoot_44 (a0 : Nat) (i1 : Int32) (i2 : Int32) (h : dzH) : dzF 94 44 [(0, .ref a0), (1, .int i1), (2, .int i2)] [] (0, 0) h =
  (dgA h a0 5 4).bind fun r1 =>
  (dgI h r1 3 3).bind fun v2 =>
  if i2 = v2 then
    (dpF h a0 5 10 (.int i1)).bind fun h3 =>
    (dgA h3 a0 5 3).bind fun r4 =>
    (c_Trial_closes r4 i1 h3).bind fun q5 =>
    (dzB01 q5.1).bind fun b6 =>
    some (some (.int b6), q5.2)
  else
    dzF 94 2 [(0, .ref a0), (1, .int (i1 + (1 : Int32)))] [] (0, 0) h := (dzW_at 13 94 _ _ _ _ _).trans rfl
-- PrimeCertificates$Maker.findWitnesses:()Z
theorem q_Maker_findWitnesses_0 (a0 : Nat) (h : dzH) : dzF 95 0 [(0, .ref a0)] [] (0, 0) h =
  dzF 95 4 [(0, .ref a0), (1, .int (1 : Int32)), (2, .int (0 : Int32))] [] (0, 0) h := (dzW_at 5 95 _ _ _ _ _).trans rfl
theorem q_Maker_findWitnesses_4 (a0 : Nat) (i1 : Int32) (i2 : Int32) (h : dzH) : dzF 95 4 [(0, .ref a0), (1, .int i1), (2, .int i2)] [] (0, 0) h =
  (dgA h a0 5 4).bind fun r1 =>
  (dgI h r1 3 3).bind fun v2 =>
  if i2 < v2 then
    (dgA h a0 5 4).bind fun r3 =>
    (dgA h r3 3 2).bind fun r4 =>
    (dwI h r4 i2 (0 : Int32)).bind fun h5 =>
    dzF 95 27 [(0, .ref a0), (1, .int i1), (2, .int i2), (3, .int (2 : Int32))] [] (0, 0) h5
  else
    some (some (.int (1 : Int32)), h) := (dzW_at 14 95 _ _ _ _ _).trans rfl
theorem q_Maker_findWitnesses_27 (a0 : Nat) (i1 : Int32) (i2 : Int32) (i3 : Int32) (h : dzH) : dzF 95 27 [(0, .ref a0), (1, .int i1), (2, .int i2), (3, .int i3)] [] (0, 0) h =
  if i3 ≤ (200 : Int32) then
    (dgA h a0 5 4).bind fun r1 =>
    (dgA h r1 3 2).bind fun r2 =>
    (drI h r2 i2).bind fun v3 =>
    if v3 = 0 then
      if i3 ≤ i1 then
        dzF 95 64 [(0, .ref a0), (1, .int i1), (2, .int i2), (3, .int i3)] [] (0, 0) h
      else
        (dgA h a0 5 3).bind fun r4 =>
        (c_Trial_closes r4 i3 h).bind fun q5 =>
        if q5.1 = 0 then
          some (some (.int (0 : Int32)), q5.2)
        else
          dzF 95 64 [(0, .ref a0), (1, .int i1), (2, .int i2), (3, .int i3)] [] (0, 0) q5.2
    else
      dzF 95 102 [(0, .ref a0), (1, .int i1), (2, .int i2), (3, .int i3)] [] (0, 0) h
  else
    dzF 95 102 [(0, .ref a0), (1, .int i1), (2, .int i2), (3, .int i3)] [] (0, 0) h := (dzW_at 19 95 _ _ _ _ _).trans rfl
theorem q_Maker_findWitnesses_64 (a0 : Nat) (i1 : Int32) (i2 : Int32) (i3 : Int32) (h : dzH) : dzF 95 64 [(0, .ref a0), (1, .int i1), (2, .int i2), (3, .int i3)] [] (0, 0) h =
  (dgA h a0 5 3).bind fun r1 =>
  (c_Maker_factorNumber a0 i2 h).bind fun q2 =>
  (c_Trial_partsEverywhere r1 i3 q2.1 q2.2).bind fun q3 =>
  if q3.1 = 0 then
    dzF 95 96 [(0, .ref a0), (1, .int (k_max i1 i3)), (2, .int i2), (3, .int i3)] [] (0, 0) q3.2
  else
    (dgA q3.2 a0 5 4).bind fun r4 =>
    (dgA q3.2 r4 3 2).bind fun r5 =>
    (dwI q3.2 r5 i2 i3).bind fun h6 =>
    dzF 95 96 [(0, .ref a0), (1, .int (k_max i1 i3)), (2, .int i2), (3, .int i3)] [] (0, 0) h6 := (dzW_at 19 95 _ _ _ _ _).trans rfl
theorem q_Maker_findWitnesses_96 (a0 : Nat) (i1 : Int32) (i2 : Int32) (i3 : Int32) (h : dzH) : dzF 95 96 [(0, .ref a0), (1, .int i1), (2, .int i2), (3, .int i3)] [] (0, 0) h =
  dzF 95 27 [(0, .ref a0), (1, .int i1), (2, .int i2), (3, .int (i3 + (1 : Int32)))] [] (0, 0) h := (dzW_at 3 95 _ _ _ _ _).trans rfl
theorem q_Maker_findWitnesses_102 (a0 : Nat) (i1 : Int32) (i2 : Int32) (i3 : Int32) (h : dzH) : dzF 95 102 [(0, .ref a0), (1, .int i1), (2, .int i2), (3, .int i3)] [] (0, 0) h =
  (dgA h a0 5 4).bind fun r1 =>
  (dgA h r1 3 2).bind fun r2 =>
  (drI h r2 i2).bind fun v3 =>
  if v3 = 0 then
    some (some (.int (0 : Int32)), h)
  else
    dzF 95 4 [(0, .ref a0), (1, .int i1), (2, .int (i2 + (1 : Int32)))] [] (0, 0) h := (dzW_at 9 95 _ _ _ _ _).trans rfl
-- PrimeCertificates$Maker.writeLastLine:(Z)I
theorem q_Maker_writeLastLine_0 (a0 : Nat) (i1 : Int32) (h : dzH) : dzF 96 0 [(0, .ref a0), (1, .int i1)] [] (0, 0) h =
  (dgA h a0 5 3).bind fun r1 =>
  (dgA h r1 8 1).bind fun r2 =>
  (dgA h a0 5 1).bind fun r3 =>
  (dgA h r3 4 0).bind fun r4 =>
  (dgA h a0 5 1).bind fun r5 =>
  (dgI h r5 4 2).bind fun v6 =>
  (drA h r4 v6).bind fun r7 =>
  (c_Sums_copy r2 r7 h).bind fun h8 =>
  (dgA h8 a0 5 3).bind fun r9 =>
  (dgA h8 r9 8 1).bind fun r10 =>
  (c_Sums_usedWords r10 h8).bind fun q11 =>
  (dgA q11.2 a0 5 0).bind fun r12 =>
  if i1 = 0 then
    dzF 96 49 [(0, .ref a0), (1, .int i1), (2, .int q11.1)] [.int (3 : Int32), .ref r12] (0, 0) q11.2
  else
    dzF 96 49 [(0, .ref a0), (1, .int i1), (2, .int q11.1)] [.int (2 : Int32), .ref r12] (0, 0) q11.2 := (dzW_at 23 96 _ _ _ _ _).trans rfl
theorem q_Maker_writeLastLine_49 (a0 : Nat) (i1 : Int32) (i2 : Int32) (sa0 : Nat) (si1 : Int32) (h : dzH) : dzF 96 49 [(0, .ref a0), (1, .int i1), (2, .int i2)] [.int si1, .ref sa0] (0, 0) h =
  (c_Tape_append sa0 si1 h).bind fun h1 =>
  (dgA h1 a0 5 0).bind fun r2 =>
  (c_Tape_append r2 i2 h1).bind fun h3 =>
  dzF 96 62 [(0, .ref a0), (1, .int i1), (2, .int i2), (3, .int (0 : Int32))] [] (0, 0) h3 := (dzW_at 8 96 _ _ _ _ _).trans rfl
theorem q_Maker_writeLastLine_62 (a0 : Nat) (i1 : Int32) (i2 : Int32) (i3 : Int32) (h : dzH) : dzF 96 62 [(0, .ref a0), (1, .int i1), (2, .int i2), (3, .int i3)] [] (0, 0) h =
  if i3 < i2 then
    (dgA h a0 5 0).bind fun r1 =>
    (dgA h a0 5 3).bind fun r2 =>
    (dgA h r2 8 1).bind fun r3 =>
    (drI h r3 i3).bind fun v4 =>
    (c_Tape_append r1 v4 h).bind fun h5 =>
    dzF 96 62 [(0, .ref a0), (1, .int i1), (2, .int i2), (3, .int (i3 + (1 : Int32)))] [] (0, 0) h5
  else
    if i1 = 0 then
      dzF 96 104 [(0, .ref a0), (1, .int i1), (2, .int i2), (3, .int i3)] [] (0, 0) h
    else
      (dgA h a0 5 0).bind fun r1 =>
      (dgI h a0 5 10).bind fun v2 =>
      (c_Tape_append r1 v2 h).bind fun h3 =>
      dzF 96 104 [(0, .ref a0), (1, .int i1), (2, .int i2), (3, .int i3)] [] (0, 0) h3 := (dzW_at 14 96 _ _ _ _ _).trans rfl
theorem q_Maker_writeLastLine_104 (a0 : Nat) (i1 : Int32) (i2 : Int32) (i3 : Int32) (h : dzH) : dzF 96 104 [(0, .ref a0), (1, .int i1), (2, .int i2), (3, .int i3)] [] (0, 0) h =
  (dgA h a0 5 0).bind fun r1 =>
  (dgA h a0 5 4).bind fun r2 =>
  (dgI h r2 3 3).bind fun v3 =>
  (c_Tape_append r1 v3 h).bind fun h4 =>
  dzF 96 120 [(0, .ref a0), (1, .int i1), (2, .int i2), (3, .int (0 : Int32))] [] (0, 0) h4 := (dzW_at 9 96 _ _ _ _ _).trans rfl
theorem q_Maker_writeLastLine_120 (a0 : Nat) (i1 : Int32) (i2 : Int32) (i3 : Int32) (h : dzH) : dzF 96 120 [(0, .ref a0), (1, .int i1), (2, .int i2), (3, .int i3)] [] (0, 0) h =
  (dgA h a0 5 4).bind fun r1 =>
  (dgI h r1 3 3).bind fun v2 =>
  if i3 < v2 then
    (dgA h a0 5 0).bind fun r3 =>
    (dgA h a0 5 4).bind fun r4 =>
    (dgA h r4 3 0).bind fun r5 =>
    (drI h r5 i3).bind fun v6 =>
    (c_Tape_append r3 v6 h).bind fun h7 =>
    (dgA h7 a0 5 0).bind fun r8 =>
    (dgA h7 a0 5 4).bind fun r9 =>
    (dgA h7 r9 3 1).bind fun r10 =>
    (drI h7 r10 i3).bind fun v11 =>
    (c_Tape_append r8 v11 h7).bind fun h12 =>
    if i1 = 0 then
      (dgA h12 a0 5 0).bind fun r13 =>
      (dgA h12 a0 5 4).bind fun r14 =>
      (dgA h12 r14 3 2).bind fun r15 =>
      (drI h12 r15 i3).bind fun v16 =>
      (c_Tape_append r13 v16 h12).bind fun h17 =>
      dzF 96 183 [(0, .ref a0), (1, .int i1), (2, .int i2), (3, .int i3)] [] (0, 0) h17
    else
      dzF 96 183 [(0, .ref a0), (1, .int i1), (2, .int i2), (3, .int i3)] [] (0, 0) h12
  else
    (dgA h a0 5 1).bind fun r3 =>
    (dgA h a0 5 0).bind fun r4 =>
    (dgI h r4 7 1).bind fun v5 =>
    (c_Lines_keepNext r3 v5 h).bind fun h6 =>
    (dgA h6 a0 5 1).bind fun r7 =>
    (dgI h6 r7 4 2).bind fun v8 =>
    some (some (.int (v8 - (1 : Int32))), h6) := (dzW_at 32 96 _ _ _ _ _).trans rfl
theorem q_Maker_writeLastLine_183 (a0 : Nat) (i1 : Int32) (i2 : Int32) (i3 : Int32) (h : dzH) : dzF 96 183 [(0, .ref a0), (1, .int i1), (2, .int i2), (3, .int i3)] [] (0, 0) h =
  dzF 96 120 [(0, .ref a0), (1, .int i1), (2, .int i2), (3, .int (i3 + (1 : Int32)))] [] (0, 0) h := (dzW_at 3 96 _ _ _ _ _).trans rfl
-- PrimeCertificates$Maker.lineFor:([I)I
set_option maxRecDepth 100000 in
theorem q_Maker_lineFor_0 (a0 : Nat) (a1 : Nat) (h : dzH) : dzF 97 0 [(0, .ref a0), (1, .ref a1)] [] (0, 0) h =
  (dgA h a0 5 1).bind fun r1 =>
  (c_Lines_lineOf r1 a1 h).bind fun q2 =>
  if q2.1 = (-2 : Int32) then
    (dpF q2.2 a0 5 9 (.int (0 : Int32))).bind fun h3 =>
    (c_Sums_isAtMost a1 (65535 : Int32) h3).bind fun q4 =>
    if q4.1 = 0 then
      (dgA q4.2 a0 5 3).bind fun r5 =>
      (c_Trial_begin r5 a1 q4.2).bind fun h6 =>
      (c_Maker_findFactors a0 h6).bind fun q7 =>
      if q7.1 = 0 then
        some (some (.int (-2 : Int32)), q7.2)
      else
        (dgA q7.2 a0 5 5).bind fun r8 =>
        (c_Sums_isOne r8 q7.2).bind fun q9 =>
        (c_Maker_lastLineInts a0 q9.1 q9.2).bind fun q10 =>
        (c_Maker_hasRoom a0 q10.1 q10.2).bind fun q11 =>
        if q11.1 = 0 then
          some (some (.int (-2 : Int32)), q11.2)
        else
          if q9.1 = 0 then
            (c_Maker_factorsSuffice a0 q11.2).bind fun q12 =>
            if q12.1 = 0 then
              some (some (.int (-2 : Int32)), q12.2)
            else
              dzF 97 118 [(0, .ref a0), (1, .ref a1), (2, .int q2.1), (3, .int q9.1)] [] (0, 0) q12.2
          else
            dzF 97 118 [(0, .ref a0), (1, .ref a1), (2, .int q2.1), (3, .int q9.1)] [] (0, 0) q11.2
    else
      (drI q4.2 a1 (0 : Int32)).bind fun v5 =>
      (c_P_isSmallPrime v5 q4.2).bind fun q6 =>
      if q6.1 = 0 then
        some (some (.int (-2 : Int32)), q6.2)
      else
        (c_Maker_planSmallLine a0 a1 q6.2).bind fun q7 =>
        if q7.1 = 0 then
          some (some (.int (-2 : Int32)), q7.2)
        else
          (c_Maker_hasRoom a0 (0 : Int32) q7.2).bind fun q8 =>
          if q8.1 = 0 then
            some (some (.int (-2 : Int32)), q8.2)
          else
            (c_Maker_writeSmallLines a0 q8.2).bind fun q9 =>
            some (some (.int q9.1), q9.2)
  else
    some (some (.int q2.1), q2.2) := (dzW_at 39 97 _ _ _ _ _).trans rfl
theorem q_Maker_lineFor_118 (a0 : Nat) (a1 : Nat) (i2 : Int32) (i3 : Int32) (h : dzH) : dzF 97 118 [(0, .ref a0), (1, .ref a1), (2, .int i2), (3, .int i3)] [] (0, 0) h =
  if i3 = 0 then
    (c_Maker_findWitnesses a0 h).bind fun q1 =>
    if q1.1 = 0 then
      some (some (.int (-2 : Int32)), q1.2)
    else
      dzF 97 142 [(0, .ref a0), (1, .ref a1), (2, .int i2), (3, .int i3)] [] (0, 0) q1.2
  else
    (c_Maker_findRoot a0 h).bind fun q1 =>
    if q1.1 = 0 then
      some (some (.int (-2 : Int32)), q1.2)
    else
      dzF 97 142 [(0, .ref a0), (1, .ref a1), (2, .int i2), (3, .int i3)] [] (0, 0) q1.2 := (dzW_at 7 97 _ _ _ _ _).trans rfl
theorem q_Maker_lineFor_142 (a0 : Nat) (a1 : Nat) (i2 : Int32) (i3 : Int32) (h : dzH) : dzF 97 142 [(0, .ref a0), (1, .ref a1), (2, .int i2), (3, .int i3)] [] (0, 0) h =
  (c_Maker_writeSmallLines a0 h).bind fun q1 =>
  (c_Maker_writeLastLine a0 i3 q1.2).bind fun q2 =>
  some (some (.int q2.1), q2.2) := (dzW_at 7 97 _ _ _ _ _).trans rfl
-- PrimeCertificates.prove:(I)I
theorem q_P_prove_0 (a0 : Nat) (i1 : Int32) (h : dzH) : dzF 98 0 [(0, .ref a0), (1, .int i1)] [] (0, 0) h =
  (c_P_isRegister i1 h).bind fun q1 =>
  if q1.1 = 0 then
    some (some (.int (-1 : Int32)), q1.2)
  else
    (dgA q1.2 a0 0 6).bind fun r2 =>
    (c_Checker_findFault r2 q1.2).bind fun q3 =>
    if q3.1 = 0 then
      (dgA q3.2 a0 0 7).bind fun r4 =>
      (dgA q3.2 a0 0 0).bind fun r5 =>
      (drA q3.2 r5 i1).bind fun r6 =>
      (c_Maker_lineFor r4 r6 q3.2).bind fun q7 =>
      (dgA q7.2 a0 0 5).bind fun r8 =>
      (dgA q7.2 a0 0 5).bind fun r9 =>
      (dgI q7.2 r9 4 2).bind fun v10 =>
      (dpF q7.2 r8 4 3 (.int v10)).bind fun h11 =>
      some (some (.int q7.1), h11)
    else
      some (some (.int ((-100 : Int32) - q3.1)), q3.2) := (dzW_at 25 98 _ _ _ _ _).trans rfl
-- PrimeCertificatesModel.set:(IJ)V
theorem q_M_set_0 (a0 : Nat) (i1 : Int32) (j2 : Int64) (h : dzH) : dzF 99 0 [(0, .ref a0), (1, .int i1), (2, .long j2)] [] (0, 0) h =
  dzF 99 3 [(0, .ref a0), (1, .int i1), (2, .long j2), (4, .int (0 : Int32))] [] (0, 0) h := (dzW_at 3 99 _ _ _ _ _).trans rfl
theorem q_M_set_3 (a0 : Nat) (i1 : Int32) (j2 : Int64) (i4 : Int32) (h : dzH) : dzF 99 3 [(0, .ref a0), (1, .int i1), (2, .long j2), (4, .int i4)] [] (0, 0) h =
  if i4 < (40 : Int32) then
    (dgA h a0 1 0).bind fun r1 =>
    if i4 < (4 : Int32) then
      dzF 99 43 [(0, .ref a0), (1, .int i1), (2, .long j2), (4, .int i4)] [.int (Int64.toInt32 ((k_lshr j2 ((16 : Int32) * i4)) &&& (65535 : Int64))), .int (((40 : Int32) * i1) + i4), .ref r1] (0, 0) h
    else
      dzF 99 43 [(0, .ref a0), (1, .int i1), (2, .long j2), (4, .int i4)] [.int (0 : Int32), .int (((40 : Int32) * i1) + i4), .ref r1] (0, 0) h
  else
    some (none, h) := (dzW_at 23 99 _ _ _ _ _).trans rfl
theorem q_M_set_43 (a0 : Nat) (i1 : Int32) (j2 : Int64) (i4 : Int32) (sa0 : Nat) (si1 : Int32) (si2 : Int32) (h : dzH) : dzF 99 43 [(0, .ref a0), (1, .int i1), (2, .long j2), (4, .int i4)] [.int si2, .int si1, .ref sa0] (0, 0) h =
  (dwI h sa0 si1 si2).bind fun h1 =>
  dzF 99 3 [(0, .ref a0), (1, .int i1), (2, .long j2), (4, .int (i4 + (1 : Int32)))] [] (0, 0) h1 := (dzW_at 4 99 _ _ _ _ _).trans rfl
-- PrimeCertificatesModel.<init>:()V
theorem q_M_init_0 (a0 : Nat) (h : dzH) : dzF 100 0 [(0, .ref a0)] [] (0, 0) h =
  (dnI h (9280 : Int32)).bind fun h1 =>
  (dpF h1 a0 1 0 (.ref h.1)).bind fun h2 =>
  (dnI h2 (4000 : Int32)).bind fun h3 =>
  (dpF h3 a0 1 1 (.ref h2.1)).bind fun h4 =>
  (dpF h4 a0 1 3 (.int (-2 : Int32))).bind fun h5 =>
  (dnI h5 (40 : Int32)).bind fun h6 =>
  (dpF h6 a0 1 9 (.ref h5.1)).bind fun h7 =>
  (dnI h7 (40 : Int32)).bind fun h8 =>
  (dpF h8 a0 1 10 (.ref h7.1)).bind fun h9 =>
  (dnI h9 (40 : Int32)).bind fun h10 =>
  (dpF h10 a0 1 11 (.ref h9.1)).bind fun h11 =>
  (c_M_set a0 (21 : Int32) (1 : Int64) h11).bind fun h12 =>
  some (none, h12) := (dzW_at 30 100 _ _ _ _ _).trans rfl
-- PrimeCertificatesModel.copy:(II)V
theorem q_M_copy_0 (a0 : Nat) (i1 : Int32) (i2 : Int32) (h : dzH) : dzF 101 0 [(0, .ref a0), (1, .int i1), (2, .int i2)] [] (0, 0) h =
  dzF 101 2 [(0, .ref a0), (1, .int i1), (2, .int i2), (3, .int (0 : Int32))] [] (0, 0) h := (dzW_at 3 101 _ _ _ _ _).trans rfl
theorem q_M_copy_2 (a0 : Nat) (i1 : Int32) (i2 : Int32) (i3 : Int32) (h : dzH) : dzF 101 2 [(0, .ref a0), (1, .int i1), (2, .int i2), (3, .int i3)] [] (0, 0) h =
  if i3 < (40 : Int32) then
    (dgA h a0 1 0).bind fun r1 =>
    (dgA h a0 1 0).bind fun r2 =>
    (drI h r2 (((40 : Int32) * i1) + i3)).bind fun v3 =>
    (dwI h r1 (((40 : Int32) * i2) + i3) v3).bind fun h4 =>
    dzF 101 2 [(0, .ref a0), (1, .int i1), (2, .int i2), (3, .int (i3 + (1 : Int32)))] [] (0, 0) h4
  else
    some (none, h) := (dzW_at 22 101 _ _ _ _ _).trans rfl
-- PrimeCertificatesModel.order:(II)I
theorem q_M_order_0 (a0 : Nat) (i1 : Int32) (i2 : Int32) (h : dzH) : dzF 102 0 [(0, .ref a0), (1, .int i1), (2, .int i2)] [] (0, 0) h =
  dzF 102 3 [(0, .ref a0), (1, .int i1), (2, .int i2), (3, .int (39 : Int32))] [] (0, 0) h := (dzW_at 3 102 _ _ _ _ _).trans rfl
theorem q_M_order_3 (a0 : Nat) (i1 : Int32) (i2 : Int32) (i3 : Int32) (h : dzH) : dzF 102 3 [(0, .ref a0), (1, .int i1), (2, .int i2), (3, .int i3)] [] (0, 0) h =
  if i3 < 0 then
    dzF 102 38 [(0, .ref a0), (1, .int i1), (2, .int i2), (3, .int i3)] [] (0, 0) h
  else
    (dgA h a0 1 0).bind fun r1 =>
    (drI h r1 (((40 : Int32) * i1) + i3)).bind fun v2 =>
    (dgA h a0 1 0).bind fun r3 =>
    (drI h r3 (((40 : Int32) * i2) + i3)).bind fun v4 =>
    if v2 = v4 then
      dzF 102 3 [(0, .ref a0), (1, .int i1), (2, .int i2), (3, .int (i3 + (-1 : Int32)))] [] (0, 0) h
    else
      dzF 102 38 [(0, .ref a0), (1, .int i1), (2, .int i2), (3, .int i3)] [] (0, 0) h := (dzW_at 22 102 _ _ _ _ _).trans rfl
theorem q_M_order_38 (a0 : Nat) (i1 : Int32) (i2 : Int32) (i3 : Int32) (h : dzH) : dzF 102 38 [(0, .ref a0), (1, .int i1), (2, .int i2), (3, .int i3)] [] (0, 0) h =
  if i3 < 0 then
    some (some (.int (0 : Int32)), h)
  else
    (dgA h a0 1 0).bind fun r1 =>
    (drI h r1 (((40 : Int32) * i1) + i3)).bind fun v2 =>
    (dgA h a0 1 0).bind fun r3 =>
    (drI h r3 (((40 : Int32) * i2) + i3)).bind fun v4 =>
    if v2 < v4 then
      some (some (.int (-1 : Int32)), h)
    else
      some (some (.int (1 : Int32)), h) := (dzW_at 22 102 _ _ _ _ _).trans rfl
-- PrimeCertificatesModel.lengthOf:(I)I
theorem q_M_lengthOf_0 (a0 : Nat) (i1 : Int32) (h : dzH) : dzF 103 0 [(0, .ref a0), (1, .int i1)] [] (0, 0) h =
  dzF 103 3 [(0, .ref a0), (1, .int i1), (2, .int (40 : Int32))] [] (0, 0) h := (dzW_at 3 103 _ _ _ _ _).trans rfl
theorem q_M_lengthOf_3 (a0 : Nat) (i1 : Int32) (i2 : Int32) (h : dzH) : dzF 103 3 [(0, .ref a0), (1, .int i1), (2, .int i2)] [] (0, 0) h =
  if i2 ≤ 0 then
    some (some (.int i2), h)
  else
    (dgA h a0 1 0).bind fun r1 =>
    (drI h r1 ((((40 : Int32) * i1) + i2) - (1 : Int32))).bind fun v2 =>
    if v2 = 0 then
      dzF 103 3 [(0, .ref a0), (1, .int i1), (2, .int (i2 + (-1 : Int32)))] [] (0, 0) h
    else
      some (some (.int i2), h) := (dzW_at 16 103 _ _ _ _ _).trans rfl
-- PrimeCertificatesModel.isZero:(I)Z
theorem q_M_isZero_0 (a0 : Nat) (i1 : Int32) (h : dzH) : dzF 104 0 [(0, .ref a0), (1, .int i1)] [] (0, 0) h =
  (c_M_lengthOf a0 i1 h).bind fun q1 =>
  if q1.1 = 0 then
    some (some (.int (1 : Int32)), q1.2)
  else
    some (some (.int (0 : Int32)), q1.2) := (dzW_at 7 104 _ _ _ _ _).trans rfl
-- PrimeCertificatesModel.raise:(II)V
theorem q_M_raise_0 (a0 : Nat) (i1 : Int32) (i2 : Int32) (h : dzH) : dzF 105 0 [(0, .ref a0), (1, .int i1), (2, .int i2)] [] (0, 0) h =
  dzF 105 5 [(0, .ref a0), (1, .int i1), (2, .int i2), (3, .int (0 : Int32)), (4, .int (0 : Int32))] [] (0, 0) h := (dzW_at 5 105 _ _ _ _ _).trans rfl
set_option maxRecDepth 100000 in
theorem q_M_raise_5 (a0 : Nat) (i1 : Int32) (i2 : Int32) (i3 : Int32) (i4 : Int32) (h : dzH) : dzF 105 5 [(0, .ref a0), (1, .int i1), (2, .int i2), (3, .int i3), (4, .int i4)] [] (0, 0) h =
  if i4 < (40 : Int32) then
    (dgA h a0 1 0).bind fun r1 =>
    (drI h r1 (((40 : Int32) * i1) + i4)).bind fun v2 =>
    (dgA h a0 1 0).bind fun r3 =>
    (drI h r3 (((40 : Int32) * i2) + i4)).bind fun v4 =>
    (dgA h a0 1 0).bind fun r5 =>
    (dwI h r5 (((40 : Int32) * i1) + i4) (((v2 + v4) + i3) &&& (65535 : Int32))).bind fun h6 =>
    dzF 105 5 [(0, .ref a0), (1, .int i1), (2, .int i2), (3, .int (k_ishr ((v2 + v4) + i3) (16 : Int32))), (4, .int (i4 + (1 : Int32)))] [] (0, 0) h6
  else
    some (none, h) := (dzW_at 41 105 _ _ _ _ _).trans rfl
-- PrimeCertificatesModel.lower:(II)V
theorem q_M_lower_0 (a0 : Nat) (i1 : Int32) (i2 : Int32) (h : dzH) : dzF 106 0 [(0, .ref a0), (1, .int i1), (2, .int i2)] [] (0, 0) h =
  dzF 106 5 [(0, .ref a0), (1, .int i1), (2, .int i2), (3, .int (0 : Int32)), (4, .int (0 : Int32))] [] (0, 0) h := (dzW_at 5 106 _ _ _ _ _).trans rfl
set_option maxRecDepth 100000 in
theorem q_M_lower_5 (a0 : Nat) (i1 : Int32) (i2 : Int32) (i3 : Int32) (i4 : Int32) (h : dzH) : dzF 106 5 [(0, .ref a0), (1, .int i1), (2, .int i2), (3, .int i3), (4, .int i4)] [] (0, 0) h =
  if i4 < (40 : Int32) then
    (dgA h a0 1 0).bind fun r1 =>
    (drI h r1 (((40 : Int32) * i1) + i4)).bind fun v2 =>
    (dgA h a0 1 0).bind fun r3 =>
    (drI h r3 (((40 : Int32) * i2) + i4)).bind fun v4 =>
    (dgA h a0 1 0).bind fun r5 =>
    (dwI h r5 (((40 : Int32) * i1) + i4) (((v2 - v4) - i3) &&& (65535 : Int32))).bind fun h6 =>
    if ((v2 - v4) - i3) < 0 then
      dzF 106 68 [(0, .ref a0), (1, .int i1), (2, .int i2), (3, .int i3), (4, .int i4), (5, .int ((v2 - v4) - i3))] [.int (1 : Int32)] (0, 0) h6
    else
      dzF 106 68 [(0, .ref a0), (1, .int i1), (2, .int i2), (3, .int i3), (4, .int i4), (5, .int ((v2 - v4) - i3))] [.int (0 : Int32)] (0, 0) h6
  else
    some (none, h) := (dzW_at 39 106 _ _ _ _ _).trans rfl
theorem q_M_lower_68 (a0 : Nat) (i1 : Int32) (i2 : Int32) (i3 : Int32) (i4 : Int32) (i5 : Int32) (si0 : Int32) (h : dzH) : dzF 106 68 [(0, .ref a0), (1, .int i1), (2, .int i2), (3, .int i3), (4, .int i4), (5, .int i5)] [.int si0] (0, 0) h =
  dzF 106 5 [(0, .ref a0), (1, .int i1), (2, .int i2), (3, .int si0), (4, .int (i4 + (1 : Int32)))] [] (0, 0) h := (dzW_at 4 106 _ _ _ _ _).trans rfl
-- PrimeCertificatesModel.times:(III)V
theorem q_M_times_0 (a0 : Nat) (i1 : Int32) (i2 : Int32) (i3 : Int32) (h : dzH) : dzF 107 0 [(0, .ref a0), (1, .int i1), (2, .int i2), (3, .int i3)] [] (0, 0) h =
  (c_M_set a0 i3 (0 : Int64) h).bind fun h1 =>
  (c_M_lengthOf a0 i1 h1).bind fun q2 =>
  (c_M_lengthOf a0 i2 q2.2).bind fun q3 =>
  dzF 107 23 [(0, .ref a0), (1, .int i1), (2, .int i2), (3, .int i3), (4, .int q2.1), (5, .int q3.1), (6, .int (0 : Int32))] [] (0, 0) q3.2 := (dzW_at 15 107 _ _ _ _ _).trans rfl
theorem q_M_times_23 (a0 : Nat) (i1 : Int32) (i2 : Int32) (i3 : Int32) (i4 : Int32) (i5 : Int32) (i6 : Int32) (h : dzH) : dzF 107 23 [(0, .ref a0), (1, .int i1), (2, .int i2), (3, .int i3), (4, .int i4), (5, .int i5), (6, .int i6)] [] (0, 0) h =
  if i6 < i4 then
    dzF 107 36 [(0, .ref a0), (1, .int i1), (2, .int i2), (3, .int i3), (4, .int i4), (5, .int i5), (6, .int i6), (7, .long (0 : Int64)), (9, .int (0 : Int32))] [] (0, 0) h
  else
    some (none, h) := (dzW_at 8 107 _ _ _ _ _).trans rfl
theorem q_M_times_36 (a0 : Nat) (i1 : Int32) (i2 : Int32) (i3 : Int32) (i4 : Int32) (i5 : Int32) (i6 : Int32) (j7 : Int64) (i9 : Int32) (h : dzH) : dzF 107 36 [(0, .ref a0), (1, .int i1), (2, .int i2), (3, .int i3), (4, .int i4), (5, .int i5), (6, .int i6), (7, .long j7), (9, .int i9)] [] (0, 0) h =
  if i9 < i5 then
    dzF 107 50 [(0, .ref a0), (1, .int i1), (2, .int i2), (3, .int i3), (4, .int i4), (5, .int i5), (6, .int i6), (7, .long j7), (9, .int i9)] [] (0, 0) h
  else
    if (k_lcmp j7 (0 : Int64)) ≤ 0 then
      dzF 107 23 [(0, .ref a0), (1, .int i1), (2, .int i2), (3, .int i3), (4, .int i4), (5, .int i5), (6, .int (i6 + (1 : Int32)))] [] (0, 0) h
    else
      dzF 107 50 [(0, .ref a0), (1, .int i1), (2, .int i2), (3, .int i3), (4, .int i4), (5, .int i5), (6, .int i6), (7, .long j7), (9, .int i9)] [] (0, 0) h := (dzW_at 10 107 _ _ _ _ _).trans rfl
set_option maxRecDepth 100000 in
theorem q_M_times_50 (a0 : Nat) (i1 : Int32) (i2 : Int32) (i3 : Int32) (i4 : Int32) (i5 : Int32) (i6 : Int32) (j7 : Int64) (i9 : Int32) (h : dzH) : dzF 107 50 [(0, .ref a0), (1, .int i1), (2, .int i2), (3, .int i3), (4, .int i4), (5, .int i5), (6, .int i6), (7, .long j7), (9, .int i9)] [] (0, 0) h =
  (dgA h a0 1 0).bind fun r1 =>
  (drI h r1 ((((40 : Int32) * i3) + i6) + i9)).bind fun v2 =>
  if i9 < i5 then
    (dgA h a0 1 0).bind fun r3 =>
    (drI h r3 (((40 : Int32) * i1) + i6)).bind fun v4 =>
    (dgA h a0 1 0).bind fun r5 =>
    (drI h r5 (((40 : Int32) * i2) + i9)).bind fun v6 =>
    dzF 107 107 [(0, .ref a0), (1, .int i1), (2, .int i2), (3, .int i3), (4, .int i4), (5, .int i5), (6, .int i6), (7, .long j7), (9, .int i9)] [.long ((Int32.toInt64 v4) * (Int32.toInt64 v6)), .long ((Int32.toInt64 v2) + j7)] (0, 0) h
  else
    dzF 107 107 [(0, .ref a0), (1, .int i1), (2, .int i2), (3, .int i3), (4, .int i4), (5, .int i5), (6, .int i6), (7, .long j7), (9, .int i9)] [.long (0 : Int64), .long ((Int32.toInt64 v2) + j7)] (0, 0) h := (dzW_at 37 107 _ _ _ _ _).trans rfl
theorem q_M_times_107 (a0 : Nat) (i1 : Int32) (i2 : Int32) (i3 : Int32) (i4 : Int32) (i5 : Int32) (i6 : Int32) (j7 : Int64) (i9 : Int32) (sj0 : Int64) (sj1 : Int64) (h : dzH) : dzF 107 107 [(0, .ref a0), (1, .int i1), (2, .int i2), (3, .int i3), (4, .int i4), (5, .int i5), (6, .int i6), (7, .long j7), (9, .int i9)] [.long sj1, .long sj0] (0, 0) h =
  (dgA h a0 1 0).bind fun r1 =>
  (dwI h r1 ((((40 : Int32) * i3) + i6) + i9) (Int64.toInt32 ((sj0 + sj1) &&& (65535 : Int64)))).bind fun h2 =>
  dzF 107 36 [(0, .ref a0), (1, .int i1), (2, .int i2), (3, .int i3), (4, .int i4), (5, .int i5), (6, .int i6), (7, .long (k_lshr (sj0 + sj1) (16 : Int32))), (9, .int (i9 + (1 : Int32)))] [] (0, 0) h2 := (dzW_at 23 107 _ _ _ _ _).trans rfl
-- PrimeCertificatesModel.guess:(IIII)I
theorem q_M_guess_0 (a0 : Nat) (i1 : Int32) (i2 : Int32) (i3 : Int32) (i4 : Int32) (h : dzH) : dzF 108 0 [(0, .ref a0), (1, .int i1), (2, .int i2), (3, .int i3), (4, .int i4)] [] (0, 0) h =
  (dgA h a0 1 0).bind fun r1 =>
  (drI h r1 (((40 : Int32) * i1) + i2)).bind fun v2 =>
  (dgA h a0 1 0).bind fun r3 =>
  (drI h r3 ((((40 : Int32) * i1) + i2) - (1 : Int32))).bind fun v4 =>
  if (Int32.toInt64 (i3 + (1 : Int32))) = 0 then none else
  some (some (.int (Int64.toInt32 (((k_lshl (Int32.toInt64 v2) (16 : Int32)) ||| (Int32.toInt64 v4)) / (Int32.toInt64 (i3 + (1 : Int32)))))), h) := (dzW_at 32 108 _ _ _ _ _).trans rfl
-- PrimeCertificatesModel.away:(IIIII)V
theorem q_M_away_0 (a0 : Nat) (i1 : Int32) (i2 : Int32) (i3 : Int32) (i4 : Int32) (i5 : Int32) (h : dzH) : dzF 109 0 [(0, .ref a0), (1, .int i1), (2, .int i2), (3, .int i3), (4, .int i4), (5, .int i5)] [] (0, 0) h =
  dzF 109 6 [(0, .ref a0), (1, .int i1), (2, .int i2), (3, .int i3), (4, .int i4), (5, .int i5), (6, .long (0 : Int64)), (8, .int (0 : Int32))] [] (0, 0) h := (dzW_at 5 109 _ _ _ _ _).trans rfl
theorem q_M_away_6 (a0 : Nat) (i1 : Int32) (i2 : Int32) (i3 : Int32) (i4 : Int32) (i5 : Int32) (j6 : Int64) (i8 : Int32) (h : dzH) : dzF 109 6 [(0, .ref a0), (1, .int i1), (2, .int i2), (3, .int i3), (4, .int i4), (5, .int i5), (6, .long j6), (8, .int i8)] [] (0, 0) h =
  if i8 ≤ i5 then
    (dgA h a0 1 0).bind fun r1 =>
    (drI h r1 ((((40 : Int32) * i1) + i3) + i8)).bind fun v2 =>
    if i8 < i5 then
      (dgA h a0 1 0).bind fun r3 =>
      (drI h r3 (((40 : Int32) * i2) + i8)).bind fun v4 =>
      dzF 109 56 [(0, .ref a0), (1, .int i1), (2, .int i2), (3, .int i3), (4, .int i4), (5, .int i5), (6, .long j6), (8, .int i8)] [.long ((Int32.toInt64 i4) * (Int32.toInt64 v4)), .long (Int32.toInt64 v2)] (0, 0) h
    else
      dzF 109 56 [(0, .ref a0), (1, .int i1), (2, .int i2), (3, .int i3), (4, .int i4), (5, .int i5), (6, .long j6), (8, .int i8)] [.long (0 : Int64), .long (Int32.toInt64 v2)] (0, 0) h
  else
    some (none, h) := (dzW_at 31 109 _ _ _ _ _).trans rfl
theorem q_M_away_56 (a0 : Nat) (i1 : Int32) (i2 : Int32) (i3 : Int32) (i4 : Int32) (i5 : Int32) (j6 : Int64) (i8 : Int32) (sj0 : Int64) (sj1 : Int64) (h : dzH) : dzF 109 56 [(0, .ref a0), (1, .int i1), (2, .int i2), (3, .int i3), (4, .int i4), (5, .int i5), (6, .long j6), (8, .int i8)] [.long sj1, .long sj0] (0, 0) h =
  (dgA h a0 1 0).bind fun r1 =>
  (dwI h r1 ((((40 : Int32) * i1) + i3) + i8) (Int64.toInt32 (((sj0 - sj1) - j6) &&& (65535 : Int64)))).bind fun h2 =>
  dzF 109 6 [(0, .ref a0), (1, .int i1), (2, .int i2), (3, .int i3), (4, .int i4), (5, .int i5), (6, .long (-(k_lshr ((sj0 - sj1) - j6) (16 : Int32)))), (8, .int (i8 + (1 : Int32)))] [] (0, 0) h2 := (dzW_at 26 109 _ _ _ _ _).trans rfl
-- PrimeCertificatesModel.isOver:(IIII)Z
theorem q_M_isOver_0 (a0 : Nat) (i1 : Int32) (i2 : Int32) (i3 : Int32) (i4 : Int32) (h : dzH) : dzF 110 0 [(0, .ref a0), (1, .int i1), (2, .int i2), (3, .int i3), (4, .int i4)] [] (0, 0) h =
  (dgA h a0 1 0).bind fun r1 =>
  (drI h r1 ((((40 : Int32) * i1) + i3) + i4)).bind fun v2 =>
  if v2 ≤ 0 then
    dzF 110 25 [(0, .ref a0), (1, .int i1), (2, .int i2), (3, .int i3), (4, .int i4), (5, .int (i4 - (1 : Int32)))] [] (0, 0) h
  else
    some (some (.int (1 : Int32)), h) := (dzW_at 16 110 _ _ _ _ _).trans rfl
theorem q_M_isOver_25 (a0 : Nat) (i1 : Int32) (i2 : Int32) (i3 : Int32) (i4 : Int32) (i5 : Int32) (h : dzH) : dzF 110 25 [(0, .ref a0), (1, .int i1), (2, .int i2), (3, .int i3), (4, .int i4), (5, .int i5)] [] (0, 0) h =
  if i5 < 0 then
    dzF 110 65 [(0, .ref a0), (1, .int i1), (2, .int i2), (3, .int i3), (4, .int i4), (5, .int i5)] [] (0, 0) h
  else
    (dgA h a0 1 0).bind fun r1 =>
    (drI h r1 ((((40 : Int32) * i1) + i3) + i5)).bind fun v2 =>
    (dgA h a0 1 0).bind fun r3 =>
    (drI h r3 (((40 : Int32) * i2) + i5)).bind fun v4 =>
    if v2 = v4 then
      dzF 110 25 [(0, .ref a0), (1, .int i1), (2, .int i2), (3, .int i3), (4, .int i4), (5, .int (i5 + (-1 : Int32)))] [] (0, 0) h
    else
      dzF 110 65 [(0, .ref a0), (1, .int i1), (2, .int i2), (3, .int i3), (4, .int i4), (5, .int i5)] [] (0, 0) h := (dzW_at 24 110 _ _ _ _ _).trans rfl
theorem q_M_isOver_65 (a0 : Nat) (i1 : Int32) (i2 : Int32) (i3 : Int32) (i4 : Int32) (i5 : Int32) (h : dzH) : dzF 110 65 [(0, .ref a0), (1, .int i1), (2, .int i2), (3, .int i3), (4, .int i4), (5, .int i5)] [] (0, 0) h =
  if i5 < 0 then
    dzF 110 99 [(0, .ref a0), (1, .int i1), (2, .int i2), (3, .int i3), (4, .int i4), (5, .int i5)] [] (0, 0) h
  else
    (dgA h a0 1 0).bind fun r1 =>
    (drI h r1 ((((40 : Int32) * i1) + i3) + i5)).bind fun v2 =>
    (dgA h a0 1 0).bind fun r3 =>
    (drI h r3 (((40 : Int32) * i2) + i5)).bind fun v4 =>
    if v2 ≤ v4 then
      some (some (.int (0 : Int32)), h)
    else
      dzF 110 99 [(0, .ref a0), (1, .int i1), (2, .int i2), (3, .int i3), (4, .int i4), (5, .int i5)] [] (0, 0) h := (dzW_at 23 110 _ _ _ _ _).trans rfl
theorem q_M_isOver_99 (a0 : Nat) (i1 : Int32) (i2 : Int32) (i3 : Int32) (i4 : Int32) (i5 : Int32) (h : dzH) : dzF 110 99 [(0, .ref a0), (1, .int i1), (2, .int i2), (3, .int i3), (4, .int i4), (5, .int i5)] [] (0, 0) h =
  some (some (.int (1 : Int32)), h) := (dzW_at 3 110 _ _ _ _ _).trans rfl
-- PrimeCertificatesModel.part:(IIII)V
theorem q_M_part_0 (a0 : Nat) (i1 : Int32) (i2 : Int32) (i3 : Int32) (i4 : Int32) (h : dzH) : dzF 111 0 [(0, .ref a0), (1, .int i1), (2, .int i2), (3, .int i3), (4, .int i4)] [] (0, 0) h =
  (c_M_set a0 i3 (0 : Int64) h).bind fun h1 =>
  (c_M_copy a0 i1 i4 h1).bind fun h2 =>
  (c_M_lengthOf a0 i2 h2).bind fun q3 =>
  (dgA q3.2 a0 1 0).bind fun r4 =>
  (drI q3.2 r4 ((((40 : Int32) * i2) + q3.1) - (1 : Int32))).bind fun v5 =>
  (c_M_lengthOf a0 i1 q3.2).bind fun q6 =>
  dzF 111 46 [(0, .ref a0), (1, .int i1), (2, .int i2), (3, .int i3), (4, .int i4), (5, .int q3.1), (6, .int v5), (7, .int (q6.1 - q3.1))] [] (0, 0) q6.2 := (dzW_at 30 111 _ _ _ _ _).trans rfl
theorem q_M_part_46 (a0 : Nat) (i1 : Int32) (i2 : Int32) (i3 : Int32) (i4 : Int32) (i5 : Int32) (i6 : Int32) (i7 : Int32) (h : dzH) : dzF 111 46 [(0, .ref a0), (1, .int i1), (2, .int i2), (3, .int i3), (4, .int i4), (5, .int i5), (6, .int i6), (7, .int i7)] [] (0, 0) h =
  if i7 < 0 then
    some (none, h)
  else
    (c_M_guess a0 i4 (i7 + i5) i6 i5 h).bind fun q1 =>
    dzF 111 71 [(0, .ref a0), (1, .int i1), (2, .int i2), (3, .int i3), (4, .int i4), (5, .int i5), (6, .int i6), (7, .int i7), (8, .int (0 : Int32)), (9, .int q1.1)] [] (0, 0) q1.2 := (dzW_at 14 111 _ _ _ _ _).trans rfl
theorem q_M_part_71 (a0 : Nat) (i1 : Int32) (i2 : Int32) (i3 : Int32) (i4 : Int32) (i5 : Int32) (i6 : Int32) (i7 : Int32) (i8 : Int32) (i9 : Int32) (h : dzH) : dzF 111 71 [(0, .ref a0), (1, .int i1), (2, .int i2), (3, .int i3), (4, .int i4), (5, .int i5), (6, .int i6), (7, .int i7), (8, .int i8), (9, .int i9)] [] (0, 0) h =
  if i9 ≤ 0 then
    (c_M_isOver a0 i4 i2 i7 i5 h).bind fun q1 =>
    if q1.1 = 0 then
      dzF 111 145 [(0, .ref a0), (1, .int i1), (2, .int i2), (3, .int i3), (4, .int i4), (5, .int i5), (6, .int i6), (7, .int i7), (8, .int i8), (9, .int i9)] [] (0, 0) q1.2
    else
      (c_M_away a0 i4 i2 i7 (1 : Int32) i5 q1.2).bind fun h2 =>
      dzF 111 145 [(0, .ref a0), (1, .int i1), (2, .int i2), (3, .int i3), (4, .int i4), (5, .int i5), (6, .int i6), (7, .int i7), (8, .int (i8 + (1 : Int32))), (9, .int i9)] [] (0, 0) h2
  else
    (c_M_away a0 i4 i2 i7 i9 i5 h).bind fun h1 =>
    (c_M_guess a0 i4 (i7 + i5) i6 i5 h1).bind fun q2 =>
    dzF 111 71 [(0, .ref a0), (1, .int i1), (2, .int i2), (3, .int i3), (4, .int i4), (5, .int i5), (6, .int i6), (7, .int i7), (8, .int (i8 + i9)), (9, .int q2.1)] [] (0, 0) q2.2 := (dzW_at 24 111 _ _ _ _ _).trans rfl
theorem q_M_part_145 (a0 : Nat) (i1 : Int32) (i2 : Int32) (i3 : Int32) (i4 : Int32) (i5 : Int32) (i6 : Int32) (i7 : Int32) (i8 : Int32) (i9 : Int32) (h : dzH) : dzF 111 145 [(0, .ref a0), (1, .int i1), (2, .int i2), (3, .int i3), (4, .int i4), (5, .int i5), (6, .int i6), (7, .int i7), (8, .int i8), (9, .int i9)] [] (0, 0) h =
  (dgA h a0 1 0).bind fun r1 =>
  (dwI h r1 (((40 : Int32) * i3) + i7) i8).bind fun h2 =>
  dzF 111 46 [(0, .ref a0), (1, .int i1), (2, .int i2), (3, .int i3), (4, .int i4), (5, .int i5), (6, .int i6), (7, .int (i7 + (-1 : Int32)))] [] (0, 0) h2 := (dzW_at 12 111 _ _ _ _ _).trans rfl
-- PrimeCertificatesModel.bit:(II)I
theorem q_M_bit_0 (a0 : Nat) (i1 : Int32) (i2 : Int32) (h : dzH) : dzF 112 0 [(0, .ref a0), (1, .int i1), (2, .int i2)] [] (0, 0) h =
  (dgA h a0 1 0).bind fun r1 =>
  if (16 : Int32) = 0 then none else
  (drI h r1 (((40 : Int32) * i1) + (i2 / (16 : Int32)))).bind fun v2 =>
  if (16 : Int32) = 0 then none else
  some (some (.int ((k_ishr v2 (k_irem i2 (16 : Int32))) &&& (1 : Int32))), h) := (dzW_at 17 112 _ _ _ _ _).trans rfl
-- PrimeCertificatesModel.raiseTo:(IIII)V
theorem q_M_raiseTo_0 (a0 : Nat) (i1 : Int32) (i2 : Int32) (i3 : Int32) (i4 : Int32) (h : dzH) : dzF 113 0 [(0, .ref a0), (1, .int i1), (2, .int i2), (3, .int i3), (4, .int i4)] [] (0, 0) h =
  (c_M_part a0 i1 i3 (17 : Int32) (18 : Int32) h).bind fun h1 =>
  (c_M_part a0 (21 : Int32) i3 (17 : Int32) i4 h1).bind fun h2 =>
  (c_M_lengthOf a0 i2 h2).bind fun q3 =>
  dzF 113 33 [(0, .ref a0), (1, .int i1), (2, .int i2), (3, .int i3), (4, .int i4), (5, .int (((16 : Int32) * q3.1) - (1 : Int32)))] [] (0, 0) q3.2 := (dzW_at 21 113 _ _ _ _ _).trans rfl
theorem q_M_raiseTo_33 (a0 : Nat) (i1 : Int32) (i2 : Int32) (i3 : Int32) (i4 : Int32) (i5 : Int32) (h : dzH) : dzF 113 33 [(0, .ref a0), (1, .int i1), (2, .int i2), (3, .int i3), (4, .int i4), (5, .int i5)] [] (0, 0) h =
  if i5 < 0 then
    some (none, h)
  else
    (c_M_times a0 i4 i4 (19 : Int32) h).bind fun h1 =>
    (c_M_part a0 (19 : Int32) i3 (17 : Int32) i4 h1).bind fun h2 =>
    (c_M_bit a0 i2 i5 h2).bind fun q3 =>
    if q3.1 = 0 then
      dzF 113 93 [(0, .ref a0), (1, .int i1), (2, .int i2), (3, .int i3), (4, .int i4), (5, .int i5)] [] (0, 0) q3.2
    else
      (c_M_times a0 i4 (18 : Int32) (19 : Int32) q3.2).bind fun h4 =>
      (c_M_part a0 (19 : Int32) i3 (17 : Int32) i4 h4).bind fun h5 =>
      dzF 113 93 [(0, .ref a0), (1, .int i1), (2, .int i2), (3, .int i3), (4, .int i4), (5, .int i5)] [] (0, 0) h5 := (dzW_at 30 113 _ _ _ _ _).trans rfl
theorem q_M_raiseTo_93 (a0 : Nat) (i1 : Int32) (i2 : Int32) (i3 : Int32) (i4 : Int32) (i5 : Int32) (h : dzH) : dzF 113 93 [(0, .ref a0), (1, .int i1), (2, .int i2), (3, .int i3), (4, .int i4), (5, .int i5)] [] (0, 0) h =
  dzF 113 33 [(0, .ref a0), (1, .int i1), (2, .int i2), (3, .int i3), (4, .int i4), (5, .int (i5 + (-1 : Int32)))] [] (0, 0) h := (dzW_at 3 113 _ _ _ _ _).trans rfl
-- PrimeCertificatesModel.divisor:(III)V
theorem q_M_divisor_0 (a0 : Nat) (i1 : Int32) (i2 : Int32) (i3 : Int32) (h : dzH) : dzF 114 0 [(0, .ref a0), (1, .int i1), (2, .int i2), (3, .int i3)] [] (0, 0) h =
  (c_M_copy a0 i1 i3 h).bind fun h1 =>
  (c_M_copy a0 i2 (18 : Int32) h1).bind fun h2 =>
  dzF 114 13 [(0, .ref a0), (1, .int i1), (2, .int i2), (3, .int i3)] [] (0, 0) h2 := (dzW_at 9 114 _ _ _ _ _).trans rfl
theorem q_M_divisor_13 (a0 : Nat) (i1 : Int32) (i2 : Int32) (i3 : Int32) (h : dzH) : dzF 114 13 [(0, .ref a0), (1, .int i1), (2, .int i2), (3, .int i3)] [] (0, 0) h =
  (c_M_isZero a0 (18 : Int32) h).bind fun q1 =>
  if q1.1 = 0 then
    (c_M_part a0 i3 (18 : Int32) (17 : Int32) (19 : Int32) q1.2).bind fun h2 =>
    (c_M_copy a0 (18 : Int32) i3 h2).bind fun h3 =>
    (c_M_copy a0 (19 : Int32) (18 : Int32) h3).bind fun h4 =>
    dzF 114 13 [(0, .ref a0), (1, .int i1), (2, .int i2), (3, .int i3)] [] (0, 0) h4
  else
    some (none, q1.2) := (dzW_at 20 114 _ _ _ _ _).trans rfl
-- PrimeCertificatesModel.fits:(I)Z
theorem q_M_fits_0 (a0 : Nat) (i1 : Int32) (h : dzH) : dzF 115 0 [(0, .ref a0), (1, .int i1)] [] (0, 0) h =
  (c_M_lengthOf a0 i1 h).bind fun q1 =>
  if q1.1 ≤ (16 : Int32) then
    some (some (.int (1 : Int32)), q1.2)
  else
    some (some (.int (0 : Int32)), q1.2) := (dzW_at 8 115 _ _ _ _ _).trans rfl
-- PrimeCertificatesModel.isOne:(I)Z
theorem q_M_isOne_0 (a0 : Nat) (i1 : Int32) (h : dzH) : dzF 116 0 [(0, .ref a0), (1, .int i1)] [] (0, 0) h =
  (c_M_order a0 i1 (21 : Int32) h).bind fun q1 =>
  if q1.1 = 0 then
    some (some (.int (1 : Int32)), q1.2)
  else
    some (some (.int (0 : Int32)), q1.2) := (dzW_at 8 116 _ _ _ _ _).trans rfl
-- PrimeCertificatesModel.isRegister:(I)Z
theorem q_M_isRegister_0 (i0 : Int32) (h : dzH) : dzF 117 0 [(0, .int i0)] [] (0, 0) h =
  if i0 < 0 then
    some (some (.int (0 : Int32)), h)
  else
    if i0 < (8 : Int32) then
      some (some (.int (1 : Int32)), h)
    else
      some (some (.int (0 : Int32)), h) := (dzW_at 8 117 _ _ _ _ _).trans rfl
-- PrimeCertificatesModel.put:(III)Z
theorem q_M_put_0 (a0 : Nat) (i1 : Int32) (i2 : Int32) (i3 : Int32) (h : dzH) : dzF 118 0 [(0, .ref a0), (1, .int i1), (2, .int i2), (3, .int i3)] [] (0, 0) h =
  (c_M_isRegister i1 h).bind fun q1 =>
  if q1.1 = 0 then
    some (some (.int (0 : Int32)), q1.2)
  else
    if i2 < 0 then
      some (some (.int (0 : Int32)), q1.2)
    else
      if i2 ≤ (7 : Int32) then
        dzF 118 22 [(0, .ref a0), (1, .int i1), (2, .int i2), (3, .int i3), (4, .int (0 : Int32))] [] (0, 0) q1.2
      else
        some (some (.int (0 : Int32)), q1.2) := (dzW_at 11 118 _ _ _ _ _).trans rfl
theorem q_M_put_22 (a0 : Nat) (i1 : Int32) (i2 : Int32) (i3 : Int32) (i4 : Int32) (h : dzH) : dzF 118 22 [(0, .ref a0), (1, .int i1), (2, .int i2), (3, .int i3), (4, .int i4)] [] (0, 0) h =
  if i4 < (2 : Int32) then
    (dgA h a0 1 0).bind fun r1 =>
    (dwI h r1 ((((40 : Int32) * i1) + ((2 : Int32) * i2)) + i4) ((k_ishr i3 ((16 : Int32) * i4)) &&& (65535 : Int32))).bind fun h2 =>
    dzF 118 22 [(0, .ref a0), (1, .int i1), (2, .int i2), (3, .int i3), (4, .int (i4 + (1 : Int32)))] [] (0, 0) h2
  else
    some (some (.int (1 : Int32)), h) := (dzW_at 25 118 _ _ _ _ _).trans rfl
-- PrimeCertificatesModel.get:(II)I
theorem q_M_get_0 (a0 : Nat) (i1 : Int32) (i2 : Int32) (h : dzH) : dzF 119 0 [(0, .ref a0), (1, .int i1), (2, .int i2)] [] (0, 0) h =
  (c_M_isRegister i1 h).bind fun q1 =>
  if q1.1 = 0 then
    some (some (.int (0 : Int32)), q1.2)
  else
    if i2 < 0 then
      some (some (.int (0 : Int32)), q1.2)
    else
      if i2 ≤ (7 : Int32) then
        (dgA q1.2 a0 1 0).bind fun r2 =>
        (drI q1.2 r2 ((((40 : Int32) * i1) + ((2 : Int32) * i2)) + (1 : Int32))).bind fun v3 =>
        (dgA q1.2 a0 1 0).bind fun r4 =>
        (drI q1.2 r4 (((40 : Int32) * i1) + ((2 : Int32) * i2))).bind fun v5 =>
        some (some (.int ((k_ishl v3 (16 : Int32)) ||| v5)), q1.2)
      else
        some (some (.int (0 : Int32)), q1.2) := (dzW_at 34 119 _ _ _ _ _).trans rfl
-- PrimeCertificatesModel.are:(III)Z
theorem q_M_are_0 (i0 : Int32) (i1 : Int32) (i2 : Int32) (h : dzH) : dzF 120 0 [(0, .int i0), (1, .int i1), (2, .int i2)] [] (0, 0) h =
  (c_M_isRegister i0 h).bind fun q1 =>
  if q1.1 = 0 then
    some (some (.int (0 : Int32)), q1.2)
  else
    (c_M_isRegister i1 q1.2).bind fun q2 =>
    if q2.1 = 0 then
      some (some (.int (0 : Int32)), q2.2)
    else
      (c_M_isRegister i2 q2.2).bind fun q3 =>
      if q3.1 = 0 then
        some (some (.int (0 : Int32)), q3.2)
      else
        some (some (.int (1 : Int32)), q3.2) := (dzW_at 12 120 _ _ _ _ _).trans rfl
-- PrimeCertificatesModel.give:(II)I
theorem q_M_give_0 (a0 : Nat) (i1 : Int32) (i2 : Int32) (h : dzH) : dzF 121 0 [(0, .ref a0), (1, .int i1), (2, .int i2)] [] (0, 0) h =
  (c_M_fits a0 i1 h).bind fun q1 =>
  if q1.1 = 0 then
    some (some (.int (-3 : Int32)), q1.2)
  else
    (c_M_copy a0 i1 i2 q1.2).bind fun h2 =>
    some (some (.int (0 : Int32)), h2) := (dzW_at 10 121 _ _ _ _ _).trans rfl
-- PrimeCertificatesModel.add:(III)I
theorem q_M_add_0 (a0 : Nat) (i1 : Int32) (i2 : Int32) (i3 : Int32) (h : dzH) : dzF 122 0 [(0, .ref a0), (1, .int i1), (2, .int i2), (3, .int i3)] [] (0, 0) h =
  (c_M_are i1 i2 i3 h).bind fun q1 =>
  if q1.1 = 0 then
    some (some (.int (-1 : Int32)), q1.2)
  else
    (c_M_copy a0 i1 (8 : Int32) q1.2).bind fun h2 =>
    (c_M_raise a0 (8 : Int32) i2 h2).bind fun h3 =>
    (c_M_give a0 (8 : Int32) i3 h3).bind fun q4 =>
    some (some (.int q4.1), q4.2) := (dzW_at 18 122 _ _ _ _ _).trans rfl
-- PrimeCertificatesModel.subtract:(III)I
theorem q_M_subtract_0 (a0 : Nat) (i1 : Int32) (i2 : Int32) (i3 : Int32) (h : dzH) : dzF 123 0 [(0, .ref a0), (1, .int i1), (2, .int i2), (3, .int i3)] [] (0, 0) h =
  (c_M_are i1 i2 i3 h).bind fun q1 =>
  if q1.1 = 0 then
    some (some (.int (-1 : Int32)), q1.2)
  else
    (c_M_order a0 i1 i2 q1.2).bind fun q2 =>
    if q2.1 < 0 then
      some (some (.int (-2 : Int32)), q2.2)
    else
      (c_M_copy a0 i1 (8 : Int32) q2.2).bind fun h3 =>
      (c_M_lower a0 (8 : Int32) i2 h3).bind fun h4 =>
      (c_M_give a0 (8 : Int32) i3 h4).bind fun q5 =>
      some (some (.int q5.1), q5.2) := (dzW_at 23 123 _ _ _ _ _).trans rfl
-- PrimeCertificatesModel.multiply:(III)I
theorem q_M_multiply_0 (a0 : Nat) (i1 : Int32) (i2 : Int32) (i3 : Int32) (h : dzH) : dzF 124 0 [(0, .ref a0), (1, .int i1), (2, .int i2), (3, .int i3)] [] (0, 0) h =
  (c_M_are i1 i2 i3 h).bind fun q1 =>
  if q1.1 = 0 then
    some (some (.int (-1 : Int32)), q1.2)
  else
    (c_M_times a0 i1 i2 (8 : Int32) q1.2).bind fun h2 =>
    (c_M_give a0 (8 : Int32) i3 h2).bind fun q3 =>
    some (some (.int q3.1), q3.2) := (dzW_at 15 124 _ _ _ _ _).trans rfl
-- PrimeCertificatesModel.divide:(IIII)I
theorem q_M_divide_0 (a0 : Nat) (i1 : Int32) (i2 : Int32) (i3 : Int32) (i4 : Int32) (h : dzH) : dzF 125 0 [(0, .ref a0), (1, .int i1), (2, .int i2), (3, .int i3), (4, .int i4)] [] (0, 0) h =
  (c_M_are i1 i2 i3 h).bind fun q1 =>
  if q1.1 = 0 then
    some (some (.int (-1 : Int32)), q1.2)
  else
    (c_M_isRegister i4 q1.2).bind fun q2 =>
    if q2.1 = 0 then
      some (some (.int (-1 : Int32)), q2.2)
    else
      if i3 = i4 then
        some (some (.int (-1 : Int32)), q2.2)
      else
        (c_M_isZero a0 i2 q2.2).bind fun q3 =>
        if q3.1 = 0 then
          (c_M_part a0 i1 i2 (8 : Int32) (9 : Int32) q3.2).bind fun h4 =>
          (c_M_copy a0 (8 : Int32) i3 h4).bind fun h5 =>
          (c_M_copy a0 (9 : Int32) i4 h5).bind fun h6 =>
          some (some (.int (0 : Int32)), h6)
        else
          some (some (.int (-2 : Int32)), q3.2) := (dzW_at 31 125 _ _ _ _ _).trans rfl
-- PrimeCertificatesModel.power:(IIII)I
theorem q_M_power_0 (a0 : Nat) (i1 : Int32) (i2 : Int32) (i3 : Int32) (i4 : Int32) (h : dzH) : dzF 126 0 [(0, .ref a0), (1, .int i1), (2, .int i2), (3, .int i3), (4, .int i4)] [] (0, 0) h =
  (c_M_are i1 i2 i3 h).bind fun q1 =>
  if q1.1 = 0 then
    some (some (.int (-1 : Int32)), q1.2)
  else
    (c_M_isRegister i4 q1.2).bind fun q2 =>
    if q2.1 = 0 then
      some (some (.int (-1 : Int32)), q2.2)
    else
      (c_M_isZero a0 i3 q2.2).bind fun q3 =>
      if q3.1 = 0 then
        (c_M_raiseTo a0 i1 i2 i3 (8 : Int32) q3.2).bind fun h4 =>
        (c_M_copy a0 (8 : Int32) i4 h4).bind fun h5 =>
        some (some (.int (0 : Int32)), h5)
      else
        some (some (.int (-2 : Int32)), q3.2) := (dzW_at 24 126 _ _ _ _ _).trans rfl
-- PrimeCertificatesModel.common:(III)I
theorem q_M_common_0 (a0 : Nat) (i1 : Int32) (i2 : Int32) (i3 : Int32) (h : dzH) : dzF 127 0 [(0, .ref a0), (1, .int i1), (2, .int i2), (3, .int i3)] [] (0, 0) h =
  (c_M_are i1 i2 i3 h).bind fun q1 =>
  if q1.1 = 0 then
    some (some (.int (-1 : Int32)), q1.2)
  else
    (c_M_divisor a0 i1 i2 (8 : Int32) q1.2).bind fun h2 =>
    (c_M_copy a0 (8 : Int32) i3 h2).bind fun h3 =>
    some (some (.int (0 : Int32)), h3) := (dzW_at 16 127 _ _ _ _ _).trans rfl
-- PrimeCertificatesModel.compare:(II)I
theorem q_M_compare_0 (a0 : Nat) (i1 : Int32) (i2 : Int32) (h : dzH) : dzF 128 0 [(0, .ref a0), (1, .int i1), (2, .int i2)] [] (0, 0) h =
  (c_M_isRegister i1 h).bind fun q1 =>
  if q1.1 = 0 then
    some (some (.int (2 : Int32)), q1.2)
  else
    (c_M_isRegister i2 q1.2).bind fun q2 =>
    if q2.1 = 0 then
      some (some (.int (2 : Int32)), q2.2)
    else
      (c_M_order a0 i1 i2 q2.2).bind fun q3 =>
      some (some (.int q3.1), q3.2) := (dzW_at 12 128 _ _ _ _ _).trans rfl
-- PrimeCertificatesModel.say:(I)I
theorem q_M_say_0 (a0 : Nat) (i1 : Int32) (h : dzH) : dzF 129 0 [(0, .ref a0), (1, .int i1)] [] (0, 0) h =
  (dgI h a0 1 2).bind fun v1 =>
  if v1 = (4000 : Int32) then
    some (some (.int (-3 : Int32)), h)
  else
    (dgA h a0 1 1).bind fun r2 =>
    (dgI h a0 1 2).bind fun v3 =>
    (dwI h r2 v3 i1).bind fun h4 =>
    (dgI h4 a0 1 2).bind fun v5 =>
    (dpF h4 a0 1 2 (.int (v5 + (1 : Int32)))).bind fun h6 =>
    (dgI h6 a0 1 2).bind fun v7 =>
    some (some (.int v7), h6) := (dzW_at 19 129 _ _ _ _ _).trans rfl
-- PrimeCertificatesModel.cut:(I)Z
theorem q_M_cut_0 (a0 : Nat) (i1 : Int32) (h : dzH) : dzF 130 0 [(0, .ref a0), (1, .int i1)] [] (0, 0) h =
  if i1 < 0 then
    some (some (.int (0 : Int32)), h)
  else
    (dgI h a0 1 2).bind fun v1 =>
    if i1 ≤ v1 then
      (dpF h a0 1 2 (.int i1)).bind fun h2 =>
      some (some (.int (1 : Int32)), h2)
    else
      some (some (.int (0 : Int32)), h) := (dzW_at 11 130 _ _ _ _ _).trans rfl
-- PrimeCertificatesModel.length:()I
theorem q_M_length_0 (a0 : Nat) (h : dzH) : dzF 131 0 [(0, .ref a0)] [] (0, 0) h =
  (dgI h a0 1 2).bind fun v1 =>
  some (some (.int v1), h) := (dzW_at 3 131 _ _ _ _ _).trans rfl
-- PrimeCertificatesModel.at:(I)I
theorem q_M_at_0 (a0 : Nat) (i1 : Int32) (h : dzH) : dzF 132 0 [(0, .ref a0), (1, .int i1)] [] (0, 0) h =
  if i1 < 0 then
    some (some (.int (0 : Int32)), h)
  else
    (dgI h a0 1 2).bind fun v1 =>
    if i1 < v1 then
      (dgA h a0 1 1).bind fun r2 =>
      (drI h r2 i1).bind fun v3 =>
      some (some (.int v3), h)
    else
      some (some (.int (0 : Int32)), h) := (dzW_at 12 132 _ _ _ _ _).trans rfl
-- PrimeCertificatesModel.fail:(II)V
theorem q_M_fail_0 (a0 : Nat) (i1 : Int32) (i2 : Int32) (h : dzH) : dzF 133 0 [(0, .ref a0), (1, .int i1), (2, .int i2)] [] (0, 0) h =
  (dgI h a0 1 7).bind fun v1 =>
  if v1 = 0 then
    (dpF h a0 1 7 (.int i1)).bind fun h2 =>
    (dpF h2 a0 1 3 (.int i2)).bind fun h3 =>
    some (none, h3)
  else
    some (none, h) := (dzW_at 10 133 _ _ _ _ _).trans rfl
-- PrimeCertificatesModel.isGood:()Z
theorem q_M_isGood_0 (a0 : Nat) (h : dzH) : dzF 134 0 [(0, .ref a0)] [] (0, 0) h =
  (dgI h a0 1 7).bind fun v1 =>
  if v1 = 0 then
    some (some (.int (1 : Int32)), h)
  else
    some (some (.int (0 : Int32)), h) := (dzW_at 6 134 _ _ _ _ _).trans rfl
-- PrimeCertificatesModel.next:()I
theorem q_M_next_0 (a0 : Nat) (h : dzH) : dzF 135 0 [(0, .ref a0)] [] (0, 0) h =
  (c_M_isGood a0 h).bind fun q1 =>
  if q1.1 = 0 then
    some (some (.int (0 : Int32)), q1.2)
  else
    (dgI q1.2 a0 1 6).bind fun v2 =>
    (dgI q1.2 a0 1 2).bind fun v3 =>
    if v2 = v3 then
      (dgI q1.2 a0 1 2).bind fun v4 =>
      (c_M_fail a0 (1 : Int32) v4 q1.2).bind fun h5 =>
      some (some (.int (0 : Int32)), h5)
    else
      (dgI q1.2 a0 1 6).bind fun v4 =>
      (dpF q1.2 a0 1 6 (.int (v4 + (1 : Int32)))).bind fun h5 =>
      (dgA h5 a0 1 1).bind fun r6 =>
      (dgI h5 a0 1 6).bind fun v7 =>
      (drI h5 r6 (v7 - (1 : Int32))).bind fun v8 =>
      some (some (.int v8), h5) := (dzW_at 22 135 _ _ _ _ _).trans rfl
-- PrimeCertificatesModel.nextIn:(II)I
theorem q_M_nextIn_0 (a0 : Nat) (i1 : Int32) (i2 : Int32) (h : dzH) : dzF 136 0 [(0, .ref a0), (1, .int i1), (2, .int i2)] [] (0, 0) h =
  (c_M_next a0 h).bind fun q1 =>
  (c_M_isGood a0 q1.2).bind fun q2 =>
  if q2.1 = 0 then
    some (some (.int q1.1), q2.2)
  else
    if q1.1 < i1 then
      dzF 136 22 [(0, .ref a0), (1, .int i1), (2, .int i2), (3, .int q1.1)] [] (0, 0) q2.2
    else
      if q1.1 ≤ i2 then
        some (some (.int q1.1), q2.2)
      else
        dzF 136 22 [(0, .ref a0), (1, .int i1), (2, .int i2), (3, .int q1.1)] [] (0, 0) q2.2 := (dzW_at 14 136 _ _ _ _ _).trans rfl
theorem q_M_nextIn_22 (a0 : Nat) (i1 : Int32) (i2 : Int32) (i3 : Int32) (h : dzH) : dzF 136 22 [(0, .ref a0), (1, .int i1), (2, .int i2), (3, .int i3)] [] (0, 0) h =
  (dgI h a0 1 6).bind fun v1 =>
  (c_M_fail a0 (2 : Int32) (v1 - (1 : Int32)) h).bind fun h2 =>
  some (some (.int i3), h2) := (dzW_at 9 136 _ _ _ _ _).trans rfl
-- PrimeCertificatesModel.isSmallPrime:(I)Z
theorem q_M_isSmallPrime_0 (i0 : Int32) (h : dzH) : dzF 137 0 [(0, .int i0)] [] (0, 0) h =
  if i0 ≤ (1 : Int32) then
    dzF 137 10 [(0, .int i0)] [.int (0 : Int32)] (0, 0) h
  else
    dzF 137 10 [(0, .int i0)] [.int (1 : Int32)] (0, 0) h := (dzW_at 6 137 _ _ _ _ _).trans rfl
theorem q_M_isSmallPrime_10 (i0 : Int32) (si0 : Int32) (h : dzH) : dzF 137 10 [(0, .int i0)] [.int si0] (0, 0) h =
  dzF 137 13 [(0, .int i0), (1, .int si0), (2, .int (2 : Int32))] [] (0, 0) h := (dzW_at 4 137 _ _ _ _ _).trans rfl
theorem q_M_isSmallPrime_13 (i0 : Int32) (i1 : Int32) (i2 : Int32) (h : dzH) : dzF 137 13 [(0, .int i0), (1, .int i1), (2, .int i2)] [] (0, 0) h =
  if (i2 * i2) ≤ i0 then
    if i1 = 0 then
      (dzB01 i1).bind fun b1 =>
      some (some (.int b1), h)
    else
      if i2 = 0 then none else
      if (k_irem i0 i2) = 0 then
        dzF 137 35 [(0, .int i0), (1, .int i1), (2, .int i2)] [.int (0 : Int32)] (0, 0) h
      else
        dzF 137 35 [(0, .int i0), (1, .int i1), (2, .int i2)] [.int (1 : Int32)] (0, 0) h
  else
    (dzB01 i1).bind fun b1 =>
    some (some (.int b1), h) := (dzW_at 14 137 _ _ _ _ _).trans rfl
theorem q_M_isSmallPrime_35 (i0 : Int32) (i1 : Int32) (i2 : Int32) (si0 : Int32) (h : dzH) : dzF 137 35 [(0, .int i0), (1, .int i1), (2, .int i2)] [.int si0] (0, 0) h =
  dzF 137 13 [(0, .int i0), (1, .int si0), (2, .int (i2 + (1 : Int32)))] [] (0, 0) h := (dzW_at 4 137 _ _ _ _ _).trans rfl
-- PrimeCertificatesModel.lineOne:()V
theorem q_M_lineOne_0 (a0 : Nat) (h : dzH) : dzF 138 0 [(0, .ref a0)] [] (0, 0) h =
  (c_M_next a0 h).bind fun q1 =>
  (c_M_isGood a0 q1.2).bind fun q2 =>
  if q2.1 = 0 then
    dzF 138 41 [(0, .ref a0), (1, .int q1.1)] [] (0, 0) q2.2
  else
    if q1.1 < (2 : Int32) then
      dzF 138 30 [(0, .ref a0), (1, .int q1.1)] [] (0, 0) q2.2
    else
      if q1.1 ≤ (65535 : Int32) then
        (c_M_isSmallPrime q1.1 q2.2).bind fun q3 =>
        if q3.1 = 0 then
          dzF 138 30 [(0, .ref a0), (1, .int q1.1)] [] (0, 0) q3.2
        else
          dzF 138 41 [(0, .ref a0), (1, .int q1.1)] [] (0, 0) q3.2
      else
        dzF 138 30 [(0, .ref a0), (1, .int q1.1)] [] (0, 0) q2.2 := (dzW_at 16 138 _ _ _ _ _).trans rfl
theorem q_M_lineOne_30 (a0 : Nat) (i1 : Int32) (h : dzH) : dzF 138 30 [(0, .ref a0), (1, .int i1)] [] (0, 0) h =
  (dgI h a0 1 6).bind fun v1 =>
  (c_M_fail a0 (3 : Int32) (v1 - (1 : Int32)) h).bind fun h2 =>
  dzF 138 41 [(0, .ref a0), (1, .int i1)] [] (0, 0) h2 := (dzW_at 8 138 _ _ _ _ _).trans rfl
theorem q_M_lineOne_41 (a0 : Nat) (i1 : Int32) (h : dzH) : dzF 138 41 [(0, .ref a0), (1, .int i1)] [] (0, 0) h =
  (dgI h a0 1 4).bind fun v1 =>
  (c_M_set a0 ((32 : Int32) + v1) (Int32.toInt64 i1) h).bind fun h2 =>
  some (none, h2) := (dzW_at 9 138 _ _ _ _ _).trans rfl
-- PrimeCertificatesModel.number:()V
theorem q_M_number_0 (a0 : Nat) (h : dzH) : dzF 139 0 [(0, .ref a0)] [] (0, 0) h =
  (dgI h a0 1 6).bind fun v1 =>
  (c_M_nextIn a0 (1 : Int32) (8 : Int32) h).bind fun q2 =>
  (c_M_set a0 (10 : Int32) (0 : Int64) q2.2).bind fun h3 =>
  dzF 139 25 [(0, .ref a0), (1, .int v1), (2, .int q2.1), (3, .int (1 : Int32)), (4, .int (0 : Int32))] [] (0, 0) h3 := (dzW_at 17 139 _ _ _ _ _).trans rfl
theorem q_M_number_25 (a0 : Nat) (i1 : Int32) (i2 : Int32) (i3 : Int32) (i4 : Int32) (h : dzH) : dzF 139 25 [(0, .ref a0), (1, .int i1), (2, .int i2), (3, .int i3), (4, .int i4)] [] (0, 0) h =
  if i4 < i2 then
    (c_M_isGood a0 h).bind fun q1 =>
    if q1.1 = 0 then
      dzF 139 85 [(0, .ref a0), (1, .int i1), (2, .int i2), (3, .int i3), (4, .int i4)] [] (0, 0) q1.2
    else
      (c_M_next a0 q1.2).bind fun q2 =>
      (dgA q2.2 a0 1 0).bind fun r3 =>
      (dwI q2.2 r3 ((400 : Int32) + ((2 : Int32) * i4)) (q2.1 &&& (65535 : Int32))).bind fun h4 =>
      (dgA h4 a0 1 0).bind fun r5 =>
      (dwI h4 r5 (((400 : Int32) + ((2 : Int32) * i4)) + (1 : Int32)) (k_iushr q2.1 (16 : Int32))).bind fun h6 =>
      dzF 139 25 [(0, .ref a0), (1, .int i1), (2, .int i2), (3, .int q2.1), (4, .int (i4 + (1 : Int32)))] [] (0, 0) h6
  else
    dzF 139 85 [(0, .ref a0), (1, .int i1), (2, .int i2), (3, .int i3), (4, .int i4)] [] (0, 0) h := (dzW_at 36 139 _ _ _ _ _).trans rfl
theorem q_M_number_85 (a0 : Nat) (i1 : Int32) (i2 : Int32) (i3 : Int32) (i4 : Int32) (h : dzH) : dzF 139 85 [(0, .ref a0), (1, .int i1), (2, .int i2), (3, .int i3), (4, .int i4)] [] (0, 0) h =
  (c_M_isGood a0 h).bind fun q1 =>
  if q1.1 = 0 then
    dzF 139 107 [(0, .ref a0), (1, .int i1), (2, .int i2), (3, .int i3), (4, .int i4)] [] (0, 0) q1.2
  else
    if i3 = 0 then
      (dgI q1.2 a0 1 6).bind fun v2 =>
      (c_M_fail a0 (2 : Int32) (v2 - (1 : Int32)) q1.2).bind fun h3 =>
      dzF 139 107 [(0, .ref a0), (1, .int i1), (2, .int i2), (3, .int i3), (4, .int i4)] [] (0, 0) h3
    else
      dzF 139 107 [(0, .ref a0), (1, .int i1), (2, .int i2), (3, .int i3), (4, .int i4)] [] (0, 0) q1.2 := (dzW_at 13 139 _ _ _ _ _).trans rfl
theorem q_M_number_107 (a0 : Nat) (i1 : Int32) (i2 : Int32) (i3 : Int32) (i4 : Int32) (h : dzH) : dzF 139 107 [(0, .ref a0), (1, .int i1), (2, .int i2), (3, .int i3), (4, .int i4)] [] (0, 0) h =
  (c_M_set a0 (8 : Int32) (3 : Int64) h).bind fun h1 =>
  (c_M_isGood a0 h1).bind fun q2 =>
  if q2.1 = 0 then
    dzF 139 140 [(0, .ref a0), (1, .int i1), (2, .int i2), (3, .int i3), (4, .int i4)] [] (0, 0) q2.2
  else
    (c_M_order a0 (10 : Int32) (8 : Int32) q2.2).bind fun q3 =>
    if q3.1 < 0 then
      (c_M_fail a0 (4 : Int32) i1 q3.2).bind fun h4 =>
      dzF 139 140 [(0, .ref a0), (1, .int i1), (2, .int i2), (3, .int i3), (4, .int i4)] [] (0, 0) h4
    else
      dzF 139 140 [(0, .ref a0), (1, .int i1), (2, .int i2), (3, .int i3), (4, .int i4)] [] (0, 0) q3.2 := (dzW_at 17 139 _ _ _ _ _).trans rfl
theorem q_M_number_140 (a0 : Nat) (i1 : Int32) (i2 : Int32) (i3 : Int32) (i4 : Int32) (h : dzH) : dzF 139 140 [(0, .ref a0), (1, .int i1), (2, .int i2), (3, .int i3), (4, .int i4)] [] (0, 0) h =
  (c_M_copy a0 (10 : Int32) (11 : Int32) h).bind fun h1 =>
  (c_M_isGood a0 h1).bind fun q2 =>
  if q2.1 = 0 then
    some (none, q2.2)
  else
    (c_M_lower a0 (11 : Int32) (21 : Int32) q2.2).bind fun h3 =>
    some (none, h3) := (dzW_at 12 139 _ _ _ _ _).trans rfl
-- PrimeCertificatesModel.witness:(I)V
theorem q_M_witness_0 (a0 : Nat) (i1 : Int32) (h : dzH) : dzF 140 0 [(0, .ref a0), (1, .int i1)] [] (0, 0) h =
  (dgA h a0 1 1).bind fun r1 =>
  (drI h r1 i1).bind fun v2 =>
  (c_M_set a0 (14 : Int32) (Int32.toInt64 v2) h).bind fun h3 =>
  (dgA h3 a0 1 1).bind fun r4 =>
  (drI h3 r4 i1).bind fun v5 =>
  if v5 < (2 : Int32) then
    dzF 140 34 [(0, .ref a0), (1, .int i1)] [] (0, 0) h3
  else
    (c_M_order a0 (14 : Int32) (10 : Int32) h3).bind fun q6 =>
    if q6.1 < 0 then
      some (none, q6.2)
    else
      dzF 140 34 [(0, .ref a0), (1, .int i1)] [] (0, 0) q6.2 := (dzW_at 20 140 _ _ _ _ _).trans rfl
theorem q_M_witness_34 (a0 : Nat) (i1 : Int32) (h : dzH) : dzF 140 34 [(0, .ref a0), (1, .int i1)] [] (0, 0) h =
  (c_M_fail a0 (8 : Int32) i1 h).bind fun h1 =>
  some (none, h1) := (dzW_at 5 140 _ _ _ _ _).trans rfl
-- PrimeCertificatesModel.factors:(I)V
theorem q_M_factors_0 (a0 : Nat) (i1 : Int32) (h : dzH) : dzF 141 0 [(0, .ref a0), (1, .int i1)] [] (0, 0) h =
  (c_M_nextIn a0 (1 : Int32) (40 : Int32) h).bind fun q1 =>
  dzF 141 10 [(0, .ref a0), (1, .int i1), (2, .int q1.1), (3, .int (0 : Int32))] [] (0, 0) q1.2 := (dzW_at 8 141 _ _ _ _ _).trans rfl
set_option maxRecDepth 100000 in
theorem q_M_factors_10 (a0 : Nat) (i1 : Int32) (i2 : Int32) (i3 : Int32) (h : dzH) : dzF 141 10 [(0, .ref a0), (1, .int i1), (2, .int i2), (3, .int i3)] [] (0, 0) h =
  if i3 < i2 then
    (c_M_isGood a0 h).bind fun q1 =>
    if q1.1 = 0 then
      some (none, q1.2)
    else
      (dgI q1.2 a0 1 4).bind fun v2 =>
      (c_M_nextIn a0 (0 : Int32) (v2 - (1 : Int32)) q1.2).bind fun q3 =>
      (c_M_isGood a0 q3.2).bind fun q4 =>
      if q4.1 = 0 then
        dzF 141 85 [(0, .ref a0), (1, .int i1), (2, .int i2), (3, .int i3), (4, .int q3.1)] [] (0, 0) q4.2
      else
        if i3 ≤ 0 then
          dzF 141 85 [(0, .ref a0), (1, .int i1), (2, .int i2), (3, .int i3), (4, .int q3.1)] [] (0, 0) q4.2
        else
          (dgA q4.2 a0 1 1).bind fun r5 =>
          (dgI q4.2 a0 1 6).bind fun v6 =>
          (drI q4.2 r5 ((v6 - (1 : Int32)) - i1)).bind fun v7 =>
          (c_M_order a0 ((32 : Int32) + v7) ((32 : Int32) + q3.1) q4.2).bind fun q8 =>
          if q8.1 < 0 then
            dzF 141 85 [(0, .ref a0), (1, .int i1), (2, .int i2), (3, .int i3), (4, .int q3.1)] [] (0, 0) q8.2
          else
            (dgI q8.2 a0 1 6).bind fun v9 =>
            (c_M_fail a0 (5 : Int32) (v9 - (1 : Int32)) q8.2).bind fun h10 =>
            dzF 141 85 [(0, .ref a0), (1, .int i1), (2, .int i2), (3, .int i3), (4, .int q3.1)] [] (0, 0) h10
  else
    some (none, h) := (dzW_at 44 141 _ _ _ _ _).trans rfl
theorem q_M_factors_85 (a0 : Nat) (i1 : Int32) (i2 : Int32) (i3 : Int32) (i4 : Int32) (h : dzH) : dzF 141 85 [(0, .ref a0), (1, .int i1), (2, .int i2), (3, .int i3), (4, .int i4)] [] (0, 0) h =
  (c_M_nextIn a0 (1 : Int32) (255 : Int32) h).bind fun q1 =>
  if i1 = (3 : Int32) then
    (c_M_next a0 q1.2).bind fun q2 =>
    dzF 141 104 [(0, .ref a0), (1, .int i1), (2, .int i2), (3, .int i3), (4, .int i4)] [] (0, 0) q2.2
  else
    dzF 141 104 [(0, .ref a0), (1, .int i1), (2, .int i2), (3, .int i3), (4, .int i4)] [] (0, 0) q1.2 := (dzW_at 12 141 _ _ _ _ _).trans rfl
theorem q_M_factors_104 (a0 : Nat) (i1 : Int32) (i2 : Int32) (i3 : Int32) (i4 : Int32) (h : dzH) : dzF 141 104 [(0, .ref a0), (1, .int i1), (2, .int i2), (3, .int i3), (4, .int i4)] [] (0, 0) h =
  dzF 141 10 [(0, .ref a0), (1, .int i1), (2, .int i2), (3, .int (i3 + (1 : Int32)))] [] (0, 0) h := (dzW_at 3 141 _ _ _ _ _).trans rfl
-- PrimeCertificatesModel.product:(II)Z
theorem q_M_product_0 (a0 : Nat) (i1 : Int32) (i2 : Int32) (h : dzH) : dzF 142 0 [(0, .ref a0), (1, .int i1), (2, .int i2)] [] (0, 0) h =
  (c_M_set a0 (13 : Int32) (1 : Int64) h).bind fun h1 =>
  dzF 142 9 [(0, .ref a0), (1, .int i1), (2, .int i2), (3, .int (0 : Int32))] [] (0, 0) h1 := (dzW_at 7 142 _ _ _ _ _).trans rfl
theorem q_M_product_9 (a0 : Nat) (i1 : Int32) (i2 : Int32) (i3 : Int32) (h : dzH) : dzF 142 9 [(0, .ref a0), (1, .int i1), (2, .int i2), (3, .int i3)] [] (0, 0) h =
  (dgA h a0 1 1).bind fun r1 =>
  (drI h r1 i1).bind fun v2 =>
  if i3 < v2 then
    (dgA h a0 1 1).bind fun r3 =>
    (drI h r3 ((i1 + (1 : Int32)) + (i2 * i3))).bind fun v4 =>
    (dgA h a0 1 1).bind fun r5 =>
    (drI h r5 ((i1 + (2 : Int32)) + (i2 * i3))).bind fun v6 =>
    dzF 142 47 [(0, .ref a0), (1, .int i1), (2, .int i2), (3, .int i3), (4, .int v4), (5, .int v6)] [] (0, 0) h
  else
    some (some (.int (1 : Int32)), h) := (dzW_at 29 142 _ _ _ _ _).trans rfl
theorem q_M_product_47 (a0 : Nat) (i1 : Int32) (i2 : Int32) (i3 : Int32) (i4 : Int32) (i5 : Int32) (h : dzH) : dzF 142 47 [(0, .ref a0), (1, .int i1), (2, .int i2), (3, .int i3), (4, .int i4), (5, .int i5)] [] (0, 0) h =
  if i5 ≤ 0 then
    dzF 142 9 [(0, .ref a0), (1, .int i1), (2, .int i2), (3, .int (i3 + (1 : Int32)))] [] (0, 0) h
  else
    (c_M_times a0 (13 : Int32) ((32 : Int32) + i4) (8 : Int32) h).bind fun h1 =>
    (c_M_fits a0 (8 : Int32) h1).bind fun q2 =>
    if q2.1 = 0 then
      some (some (.int (0 : Int32)), q2.2)
    else
      (c_M_copy a0 (8 : Int32) (13 : Int32) q2.2).bind fun h3 =>
      dzF 142 47 [(0, .ref a0), (1, .int i1), (2, .int i2), (3, .int i3), (4, .int i4), (5, .int (i5 + (-1 : Int32)))] [] (0, 0) h3 := (dzW_at 20 142 _ _ _ _ _).trans rfl
-- PrimeCertificatesModel.isWhole:()Z
theorem q_M_isWhole_0 (a0 : Nat) (h : dzH) : dzF 143 0 [(0, .ref a0)] [] (0, 0) h =
  (c_M_raiseTo a0 (14 : Int32) (11 : Int32) (10 : Int32) (16 : Int32) h).bind fun h1 =>
  (c_M_isOne a0 (16 : Int32) h1).bind fun q2 =>
  (dzB01 q2.1).bind fun b3 =>
  some (some (.int b3), q2.2) := (dzW_at 10 143 _ _ _ _ _).trans rfl
-- PrimeCertificatesModel.isRight:(IZ)Z
theorem q_M_isRight_0 (a0 : Nat) (i1 : Int32) (i2 : Int32) (h : dzH) : dzF 144 0 [(0, .ref a0), (1, .int i1), (2, .int i2)] [] (0, 0) h =
  (c_M_part a0 (11 : Int32) ((32 : Int32) + i1) (15 : Int32) (16 : Int32) h).bind fun h1 =>
  (c_M_raiseTo a0 (14 : Int32) (15 : Int32) (10 : Int32) (16 : Int32) h1).bind fun h2 =>
  if i2 = 0 then
    (c_M_isOne a0 (16 : Int32) h2).bind fun q3 =>
    if q3.1 = 0 then
      some (some (.int (1 : Int32)), q3.2)
    else
      some (some (.int (0 : Int32)), q3.2)
  else
    (c_M_isZero a0 (16 : Int32) h2).bind fun q3 =>
    if q3.1 = 0 then
      dzF 144 62 [(0, .ref a0), (1, .int i1), (2, .int i2)] [] (0, 0) q3.2
    else
      (c_M_copy a0 (10 : Int32) (16 : Int32) q3.2).bind fun h4 =>
      dzF 144 62 [(0, .ref a0), (1, .int i1), (2, .int i2)] [] (0, 0) h4 := (dzW_at 25 144 _ _ _ _ _).trans rfl
theorem q_M_isRight_62 (a0 : Nat) (i1 : Int32) (i2 : Int32) (h : dzH) : dzF 144 62 [(0, .ref a0), (1, .int i1), (2, .int i2)] [] (0, 0) h =
  (c_M_lower a0 (16 : Int32) (21 : Int32) h).bind fun h1 =>
  (c_M_divisor a0 (16 : Int32) (10 : Int32) (22 : Int32) h1).bind fun h2 =>
  (c_M_isOne a0 (22 : Int32) h2).bind fun q3 =>
  (dzB01 q3.1).bind fun b4 =>
  some (some (.int b4), q3.2) := (dzW_at 13 144 _ _ _ _ _).trans rfl
-- PrimeCertificatesModel.lineTwo:()V
theorem q_M_lineTwo_0 (a0 : Nat) (h : dzH) : dzF 145 0 [(0, .ref a0)] [] (0, 0) h =
  (c_M_number a0 h).bind fun h1 =>
  (dgI h1 a0 1 6).bind fun v2 =>
  (c_M_next a0 h1).bind fun q3 =>
  (c_M_isGood a0 q3.2).bind fun q4 =>
  if q4.1 = 0 then
    dzF 145 26 [(0, .ref a0), (1, .int v2)] [] (0, 0) q4.2
  else
    (c_M_witness a0 v2 q4.2).bind fun h5 =>
    dzF 145 26 [(0, .ref a0), (1, .int v2)] [] (0, 0) h5 := (dzW_at 15 145 _ _ _ _ _).trans rfl
theorem q_M_lineTwo_26 (a0 : Nat) (i1 : Int32) (h : dzH) : dzF 145 26 [(0, .ref a0), (1, .int i1)] [] (0, 0) h =
  (dgI h a0 1 6).bind fun v1 =>
  (c_M_factors a0 (2 : Int32) h).bind fun h2 =>
  (c_M_isGood a0 h2).bind fun q3 =>
  if q3.1 = 0 then
    some (none, q3.2)
  else
    (c_M_product a0 v1 (2 : Int32) q3.2).bind fun q4 =>
    if q4.1 = 0 then
      dzF 145 64 [(0, .ref a0), (1, .int i1), (2, .int v1)] [] (0, 0) q4.2
    else
      (c_M_order a0 (13 : Int32) (11 : Int32) q4.2).bind fun q5 =>
      if q5.1 = 0 then
        dzF 145 71 [(0, .ref a0), (1, .int i1), (2, .int v1)] [] (0, 0) q5.2
      else
        dzF 145 64 [(0, .ref a0), (1, .int i1), (2, .int v1)] [] (0, 0) q5.2 := (dzW_at 20 145 _ _ _ _ _).trans rfl
theorem q_M_lineTwo_64 (a0 : Nat) (i1 : Int32) (i2 : Int32) (h : dzH) : dzF 145 64 [(0, .ref a0), (1, .int i1), (2, .int i2)] [] (0, 0) h =
  (c_M_fail a0 (6 : Int32) i2 h).bind fun h1 =>
  dzF 145 71 [(0, .ref a0), (1, .int i1), (2, .int i2)] [] (0, 0) h1 := (dzW_at 5 145 _ _ _ _ _).trans rfl
theorem q_M_lineTwo_71 (a0 : Nat) (i1 : Int32) (i2 : Int32) (h : dzH) : dzF 145 71 [(0, .ref a0), (1, .int i1), (2, .int i2)] [] (0, 0) h =
  (dgA h a0 1 1).bind fun r1 =>
  (drI h r1 i1).bind fun v2 =>
  (c_M_set a0 (14 : Int32) (Int32.toInt64 v2) h).bind fun h3 =>
  (c_M_isGood a0 h3).bind fun q4 =>
  if q4.1 = 0 then
    dzF 145 105 [(0, .ref a0), (1, .int i1), (2, .int i2)] [] (0, 0) q4.2
  else
    (c_M_isWhole a0 q4.2).bind fun q5 =>
    if q5.1 = 0 then
      (c_M_fail a0 (9 : Int32) i1 q5.2).bind fun h6 =>
      dzF 145 105 [(0, .ref a0), (1, .int i1), (2, .int i2)] [] (0, 0) h6
    else
      dzF 145 105 [(0, .ref a0), (1, .int i1), (2, .int i2)] [] (0, 0) q5.2 := (dzW_at 19 145 _ _ _ _ _).trans rfl
theorem q_M_lineTwo_105 (a0 : Nat) (i1 : Int32) (i2 : Int32) (h : dzH) : dzF 145 105 [(0, .ref a0), (1, .int i1), (2, .int i2)] [] (0, 0) h =
  dzF 145 107 [(0, .ref a0), (1, .int i1), (2, .int i2), (3, .int (0 : Int32))] [] (0, 0) h := (dzW_at 3 145 _ _ _ _ _).trans rfl
theorem q_M_lineTwo_107 (a0 : Nat) (i1 : Int32) (i2 : Int32) (i3 : Int32) (h : dzH) : dzF 145 107 [(0, .ref a0), (1, .int i1), (2, .int i2), (3, .int i3)] [] (0, 0) h =
  (dgA h a0 1 1).bind fun r1 =>
  (drI h r1 i2).bind fun v2 =>
  if i3 < v2 then
    (c_M_isGood a0 h).bind fun q3 =>
    if q3.1 = 0 then
      dzF 145 163 [(0, .ref a0), (1, .int i1), (2, .int i2), (3, .int i3)] [] (0, 0) q3.2
    else
      (dgA q3.2 a0 1 1).bind fun r4 =>
      (drI q3.2 r4 ((i2 + (1 : Int32)) + ((2 : Int32) * i3))).bind fun v5 =>
      (c_M_isRight a0 v5 (0 : Int32) q3.2).bind fun q6 =>
      if q6.1 = 0 then
        (c_M_fail a0 (10 : Int32) ((i2 + (1 : Int32)) + ((2 : Int32) * i3)) q6.2).bind fun h7 =>
        dzF 145 157 [(0, .ref a0), (1, .int i1), (2, .int i2), (3, .int i3)] [] (0, 0) h7
      else
        dzF 145 157 [(0, .ref a0), (1, .int i1), (2, .int i2), (3, .int i3)] [] (0, 0) q6.2
  else
    dzF 145 163 [(0, .ref a0), (1, .int i1), (2, .int i2), (3, .int i3)] [] (0, 0) h := (dzW_at 34 145 _ _ _ _ _).trans rfl
theorem q_M_lineTwo_157 (a0 : Nat) (i1 : Int32) (i2 : Int32) (i3 : Int32) (h : dzH) : dzF 145 157 [(0, .ref a0), (1, .int i1), (2, .int i2), (3, .int i3)] [] (0, 0) h =
  dzF 145 107 [(0, .ref a0), (1, .int i1), (2, .int i2), (3, .int (i3 + (1 : Int32)))] [] (0, 0) h := (dzW_at 3 145 _ _ _ _ _).trans rfl
theorem q_M_lineTwo_163 (a0 : Nat) (i1 : Int32) (i2 : Int32) (i3 : Int32) (h : dzH) : dzF 145 163 [(0, .ref a0), (1, .int i1), (2, .int i2), (3, .int i3)] [] (0, 0) h =
  (dgI h a0 1 4).bind fun v1 =>
  (c_M_copy a0 (10 : Int32) ((32 : Int32) + v1) h).bind fun h2 =>
  some (none, h2) := (dzW_at 8 145 _ _ _ _ _).trans rfl
-- PrimeCertificatesModel.lineThree:()V
theorem q_M_lineThree_0 (a0 : Nat) (h : dzH) : dzF 146 0 [(0, .ref a0)] [] (0, 0) h =
  (c_M_number a0 h).bind fun h1 =>
  (dgI h1 a0 1 6).bind fun v2 =>
  (c_M_factors a0 (3 : Int32) h1).bind fun h3 =>
  (c_M_isGood a0 h3).bind fun q4 =>
  if q4.1 = 0 then
    some (none, q4.2)
  else
    (c_M_product a0 v2 (3 : Int32) q4.2).bind fun q5 =>
    if q5.1 = 0 then
      (c_M_copy a0 (21 : Int32) (16 : Int32) q5.2).bind fun h6 =>
      dzF 146 54 [(0, .ref a0), (1, .int v2)] [] (0, 0) h6
    else
      (c_M_part a0 (11 : Int32) (13 : Int32) (15 : Int32) (16 : Int32) q5.2).bind fun h6 =>
      dzF 146 54 [(0, .ref a0), (1, .int v2)] [] (0, 0) h6 := (dzW_at 24 146 _ _ _ _ _).trans rfl
theorem q_M_lineThree_54 (a0 : Nat) (i1 : Int32) (h : dzH) : dzF 146 54 [(0, .ref a0), (1, .int i1)] [] (0, 0) h =
  (c_M_isZero a0 (16 : Int32) h).bind fun q1 =>
  if q1.1 = 0 then
    (c_M_fail a0 (6 : Int32) i1 q1.2).bind fun h2 =>
    dzF 146 70 [(0, .ref a0), (1, .int i1)] [] (0, 0) h2
  else
    dzF 146 70 [(0, .ref a0), (1, .int i1)] [] (0, 0) q1.2 := (dzW_at 9 146 _ _ _ _ _).trans rfl
theorem q_M_lineThree_70 (a0 : Nat) (i1 : Int32) (h : dzH) : dzF 146 70 [(0, .ref a0), (1, .int i1)] [] (0, 0) h =
  (c_M_times a0 (13 : Int32) (13 : Int32) (8 : Int32) h).bind fun h1 =>
  (c_M_order a0 (8 : Int32) (10 : Int32) h1).bind fun q2 =>
  if q2.1 ≤ 0 then
    (c_M_fail a0 (7 : Int32) i1 q2.2).bind fun h3 =>
    dzF 146 98 [(0, .ref a0), (1, .int i1)] [] (0, 0) h3
  else
    dzF 146 98 [(0, .ref a0), (1, .int i1)] [] (0, 0) q2.2 := (dzW_at 15 146 _ _ _ _ _).trans rfl
theorem q_M_lineThree_98 (a0 : Nat) (i1 : Int32) (h : dzH) : dzF 146 98 [(0, .ref a0), (1, .int i1)] [] (0, 0) h =
  dzF 146 100 [(0, .ref a0), (1, .int i1), (2, .int (0 : Int32))] [] (0, 0) h := (dzW_at 3 146 _ _ _ _ _).trans rfl
theorem q_M_lineThree_100 (a0 : Nat) (i1 : Int32) (i2 : Int32) (h : dzH) : dzF 146 100 [(0, .ref a0), (1, .int i1), (2, .int i2)] [] (0, 0) h =
  (dgA h a0 1 1).bind fun r1 =>
  (drI h r1 i1).bind fun v2 =>
  if i2 < v2 then
    (c_M_isGood a0 h).bind fun q3 =>
    if q3.1 = 0 then
      dzF 146 134 [(0, .ref a0), (1, .int i1), (2, .int i2)] [] (0, 0) q3.2
    else
      (c_M_witness a0 ((i1 + (3 : Int32)) + ((3 : Int32) * i2)) q3.2).bind fun h4 =>
      dzF 146 100 [(0, .ref a0), (1, .int i1), (2, .int (i2 + (1 : Int32)))] [] (0, 0) h4
  else
    dzF 146 134 [(0, .ref a0), (1, .int i1), (2, .int i2)] [] (0, 0) h := (dzW_at 21 146 _ _ _ _ _).trans rfl
theorem q_M_lineThree_134 (a0 : Nat) (i1 : Int32) (i2 : Int32) (h : dzH) : dzF 146 134 [(0, .ref a0), (1, .int i1), (2, .int i2)] [] (0, 0) h =
  dzF 146 136 [(0, .ref a0), (1, .int i1), (2, .int (0 : Int32))] [] (0, 0) h := (dzW_at 3 146 _ _ _ _ _).trans rfl
set_option maxRecDepth 100000 in
theorem q_M_lineThree_136 (a0 : Nat) (i1 : Int32) (i2 : Int32) (h : dzH) : dzF 146 136 [(0, .ref a0), (1, .int i1), (2, .int i2)] [] (0, 0) h =
  (dgA h a0 1 1).bind fun r1 =>
  (drI h r1 i1).bind fun v2 =>
  if i2 < v2 then
    (c_M_isGood a0 h).bind fun q3 =>
    if q3.1 = 0 then
      dzF 146 234 [(0, .ref a0), (1, .int i1), (2, .int i2)] [] (0, 0) q3.2
    else
      (dgA q3.2 a0 1 1).bind fun r4 =>
      (drI q3.2 r4 ((i1 + (3 : Int32)) + ((3 : Int32) * i2))).bind fun v5 =>
      (c_M_set a0 (14 : Int32) (Int32.toInt64 v5) q3.2).bind fun h6 =>
      (c_M_isWhole a0 h6).bind fun q7 =>
      if q7.1 = 0 then
        (c_M_fail a0 (9 : Int32) ((i1 + (3 : Int32)) + ((3 : Int32) * i2)) q7.2).bind fun h8 =>
        dzF 146 228 [(0, .ref a0), (1, .int i1), (2, .int i2)] [] (0, 0) h8
      else
        (dgA q7.2 a0 1 1).bind fun r8 =>
        (drI q7.2 r8 ((i1 + (1 : Int32)) + ((3 : Int32) * i2))).bind fun v9 =>
        (c_M_isRight a0 v9 (1 : Int32) q7.2).bind fun q10 =>
        if q10.1 = 0 then
          (c_M_fail a0 (10 : Int32) ((i1 + (1 : Int32)) + ((3 : Int32) * i2)) q10.2).bind fun h11 =>
          dzF 146 228 [(0, .ref a0), (1, .int i1), (2, .int i2)] [] (0, 0) h11
        else
          dzF 146 228 [(0, .ref a0), (1, .int i1), (2, .int i2)] [] (0, 0) q10.2
  else
    dzF 146 234 [(0, .ref a0), (1, .int i1), (2, .int i2)] [] (0, 0) h := (dzW_at 51 146 _ _ _ _ _).trans rfl
theorem q_M_lineThree_228 (a0 : Nat) (i1 : Int32) (i2 : Int32) (h : dzH) : dzF 146 228 [(0, .ref a0), (1, .int i1), (2, .int i2)] [] (0, 0) h =
  dzF 146 136 [(0, .ref a0), (1, .int i1), (2, .int (i2 + (1 : Int32)))] [] (0, 0) h := (dzW_at 3 146 _ _ _ _ _).trans rfl
theorem q_M_lineThree_234 (a0 : Nat) (i1 : Int32) (i2 : Int32) (h : dzH) : dzF 146 234 [(0, .ref a0), (1, .int i1), (2, .int i2)] [] (0, 0) h =
  (dgI h a0 1 4).bind fun v1 =>
  (c_M_copy a0 (10 : Int32) ((32 : Int32) + v1) h).bind fun h2 =>
  some (none, h2) := (dzW_at 8 146 _ _ _ _ _).trans rfl
-- PrimeCertificatesModel.check:()I
theorem q_M_check_0 (a0 : Nat) (h : dzH) : dzF 147 0 [(0, .ref a0)] [] (0, 0) h =
  (dpF h a0 1 5 (.int (0 : Int32))).bind fun h1 =>
  (dpF h1 a0 1 3 (.int (-2 : Int32))).bind fun h2 =>
  (dpF h2 a0 1 7 (.int (0 : Int32))).bind fun h3 =>
  (dpF h3 a0 1 6 (.int (0 : Int32))).bind fun h4 =>
  (dpF h4 a0 1 4 (.int (0 : Int32))).bind fun h5 =>
  dzF 147 26 [(0, .ref a0)] [] (0, 0) h5 := (dzW_at 16 147 _ _ _ _ _).trans rfl
theorem q_M_check_26 (a0 : Nat) (h : dzH) : dzF 147 26 [(0, .ref a0)] [] (0, 0) h =
  (c_M_isGood a0 h).bind fun q1 =>
  if q1.1 = 0 then
    dzF 147 128 [(0, .ref a0)] [] (0, 0) q1.2
  else
    (dgI q1.2 a0 1 6).bind fun v2 =>
    (dgI q1.2 a0 1 2).bind fun v3 =>
    if v2 < v3 then
      (dgI q1.2 a0 1 4).bind fun v4 =>
      if v4 = (200 : Int32) then
        (dgI q1.2 a0 1 6).bind fun v5 =>
        (c_M_fail a0 (2 : Int32) v5 q1.2).bind fun h6 =>
        dzF 147 63 [(0, .ref a0)] [] (0, 0) h6
      else
        dzF 147 63 [(0, .ref a0)] [] (0, 0) q1.2
    else
      dzF 147 128 [(0, .ref a0)] [] (0, 0) q1.2 := (dzW_at 18 147 _ _ _ _ _).trans rfl
theorem q_M_check_63 (a0 : Nat) (h : dzH) : dzF 147 63 [(0, .ref a0)] [] (0, 0) h =
  (c_M_nextIn a0 (1 : Int32) (3 : Int32) h).bind fun q1 =>
  (c_M_isGood a0 q1.2).bind fun q2 =>
  if q2.1 = 0 then
    dzF 147 26 [(0, .ref a0)] [] (0, 0) q2.2
  else
    if q1.1 = (1 : Int32) then
      (c_M_lineOne a0 q2.2).bind fun h3 =>
      dzF 147 108 [(0, .ref a0), (1, .int q1.1)] [] (0, 0) h3
    else
      if q1.1 = (2 : Int32) then
        (c_M_lineTwo a0 q2.2).bind fun h3 =>
        dzF 147 108 [(0, .ref a0), (1, .int q1.1)] [] (0, 0) h3
      else
        (c_M_lineThree a0 q2.2).bind fun h3 =>
        dzF 147 108 [(0, .ref a0), (1, .int q1.1)] [] (0, 0) h3 := (dzW_at 18 147 _ _ _ _ _).trans rfl
theorem q_M_check_108 (a0 : Nat) (i1 : Int32) (h : dzH) : dzF 147 108 [(0, .ref a0), (1, .int i1)] [] (0, 0) h =
  (c_M_isGood a0 h).bind fun q1 =>
  if q1.1 = 0 then
    dzF 147 125 [(0, .ref a0), (1, .int i1)] [] (0, 0) q1.2
  else
    (dgI q1.2 a0 1 4).bind fun v2 =>
    (dpF q1.2 a0 1 4 (.int (v2 + (1 : Int32)))).bind fun h3 =>
    dzF 147 125 [(0, .ref a0), (1, .int i1)] [] (0, 0) h3 := (dzW_at 10 147 _ _ _ _ _).trans rfl
theorem q_M_check_125 (a0 : Nat) (i1 : Int32) (h : dzH) : dzF 147 125 [(0, .ref a0), (1, .int i1)] [] (0, 0) h =
  dzF 147 26 [(0, .ref a0)] [] (0, 0) h := (dzW_at 2 147 _ _ _ _ _).trans rfl
theorem q_M_check_128 (a0 : Nat) (h : dzH) : dzF 147 128 [(0, .ref a0)] [] (0, 0) h =
  (c_M_isGood a0 h).bind fun q1 =>
  if q1.1 = 0 then
    (dgI q1.2 a0 1 7).bind fun v2 =>
    some (some (.int ((-100 : Int32) - v2)), q1.2)
  else
    (dgI q1.2 a0 1 4).bind fun v2 =>
    (dpF q1.2 a0 1 5 (.int v2)).bind fun h3 =>
    (dgI h3 a0 1 4).bind fun v4 =>
    some (some (.int v4), h3) := (dzW_at 10 147 _ _ _ _ _).trans rfl
-- PrimeCertificatesModel.place:()I
theorem q_M_place_0 (a0 : Nat) (h : dzH) : dzF 148 0 [(0, .ref a0)] [] (0, 0) h =
  (dgI h a0 1 3).bind fun v1 =>
  some (some (.int v1), h) := (dzW_at 3 148 _ _ _ _ _).trans rfl
-- PrimeCertificatesModel.tell:(II)Z
theorem q_M_tell_0 (a0 : Nat) (i1 : Int32) (i2 : Int32) (h : dzH) : dzF 149 0 [(0, .ref a0), (1, .int i1), (2, .int i2)] [] (0, 0) h =
  if i1 < 0 then
    some (some (.int (0 : Int32)), h)
  else
    (dgI h a0 1 5).bind fun v1 =>
    if i1 < v1 then
      (c_M_isRegister i2 h).bind fun q2 =>
      if q2.1 = 0 then
        some (some (.int (0 : Int32)), q2.2)
      else
        (c_M_copy a0 ((32 : Int32) + i1) i2 q2.2).bind fun h3 =>
        some (some (.int (1 : Int32)), h3)
    else
      some (some (.int (0 : Int32)), h) := (dzW_at 17 149 _ _ _ _ _).trans rfl
-- PrimeCertificatesModel.lineOf:(I)I
theorem q_M_lineOf_0 (a0 : Nat) (i1 : Int32) (h : dzH) : dzF 150 0 [(0, .ref a0), (1, .int i1)] [] (0, 0) h =
  dzF 150 2 [(0, .ref a0), (1, .int i1), (2, .int (0 : Int32))] [] (0, 0) h := (dzW_at 3 150 _ _ _ _ _).trans rfl
theorem q_M_lineOf_2 (a0 : Nat) (i1 : Int32) (i2 : Int32) (h : dzH) : dzF 150 2 [(0, .ref a0), (1, .int i1), (2, .int i2)] [] (0, 0) h =
  (dgI h a0 1 4).bind fun v1 =>
  if i2 < v1 then
    (c_M_order a0 ((32 : Int32) + i2) i1 h).bind fun q2 =>
    if q2.1 = 0 then
      dzF 150 28 [(0, .ref a0), (1, .int i1), (2, .int i2)] [] (0, 0) q2.2
    else
      dzF 150 2 [(0, .ref a0), (1, .int i1), (2, .int (i2 + (1 : Int32)))] [] (0, 0) q2.2
  else
    dzF 150 28 [(0, .ref a0), (1, .int i1), (2, .int i2)] [] (0, 0) h := (dzW_at 14 150 _ _ _ _ _).trans rfl
theorem q_M_lineOf_28 (a0 : Nat) (i1 : Int32) (i2 : Int32) (h : dzH) : dzF 150 28 [(0, .ref a0), (1, .int i1), (2, .int i2)] [] (0, 0) h =
  (dgI h a0 1 4).bind fun v1 =>
  if i2 < v1 then
    some (some (.int i2), h)
  else
    some (some (.int (-1 : Int32)), h) := (dzW_at 7 150 _ _ _ _ _).trans rfl
-- PrimeCertificatesModel.sayOne:(I)Z
theorem q_M_sayOne_0 (a0 : Nat) (i1 : Int32) (h : dzH) : dzF 151 0 [(0, .ref a0), (1, .int i1)] [] (0, 0) h =
  (dgI h a0 1 4).bind fun v1 =>
  if v1 = (200 : Int32) then
    some (some (.int (0 : Int32)), h)
  else
    (dgI h a0 1 2).bind fun v2 =>
    if (v2 + (2 : Int32)) ≤ (4000 : Int32) then
      (c_M_say a0 (1 : Int32) h).bind fun q3 =>
      (c_M_say a0 i1 q3.2).bind fun q4 =>
      (dgI q4.2 a0 1 4).bind fun v5 =>
      (c_M_set a0 ((32 : Int32) + v5) (Int32.toInt64 i1) q4.2).bind fun h6 =>
      (dgI h6 a0 1 4).bind fun v7 =>
      (dpF h6 a0 1 4 (.int (v7 + (1 : Int32)))).bind fun h8 =>
      some (some (.int (1 : Int32)), h8)
    else
      some (some (.int (0 : Int32)), h) := (dzW_at 34 151 _ _ _ _ _).trans rfl
-- PrimeCertificatesModel.often:(I)I
theorem q_M_often_0 (a0 : Nat) (i1 : Int32) (h : dzH) : dzF 152 0 [(0, .ref a0), (1, .int i1)] [] (0, 0) h =
  (c_M_part a0 (12 : Int32) i1 (15 : Int32) (16 : Int32) h).bind fun h1 =>
  dzF 152 13 [(0, .ref a0), (1, .int i1), (2, .int (0 : Int32))] [] (0, 0) h1 := (dzW_at 9 152 _ _ _ _ _).trans rfl
theorem q_M_often_13 (a0 : Nat) (i1 : Int32) (i2 : Int32) (h : dzH) : dzF 152 13 [(0, .ref a0), (1, .int i1), (2, .int i2)] [] (0, 0) h =
  (c_M_isZero a0 (16 : Int32) h).bind fun q1 =>
  if q1.1 = 0 then
    some (some (.int i2), q1.2)
  else
    (c_M_copy a0 (15 : Int32) (12 : Int32) q1.2).bind fun h2 =>
    (c_M_part a0 (12 : Int32) i1 (15 : Int32) (16 : Int32) h2).bind fun h3 =>
    dzF 152 13 [(0, .ref a0), (1, .int i1), (2, .int (i2 + (1 : Int32)))] [] (0, 0) h3 := (dzW_at 17 152 _ _ _ _ _).trans rfl
-- PrimeCertificatesModel.sort:(I)V
theorem q_M_sort_0 (a0 : Nat) (i1 : Int32) (h : dzH) : dzF 153 0 [(0, .ref a0), (1, .int i1)] [] (0, 0) h =
  dzF 153 2 [(0, .ref a0), (1, .int i1), (2, .int i1)] [] (0, 0) h := (dzW_at 3 153 _ _ _ _ _).trans rfl
theorem q_M_sort_2 (a0 : Nat) (i1 : Int32) (i2 : Int32) (h : dzH) : dzF 153 2 [(0, .ref a0), (1, .int i1), (2, .int i2)] [] (0, 0) h =
  (dgI h a0 1 8).bind fun v1 =>
  if i2 < v1 then
    dzF 153 12 [(0, .ref a0), (1, .int i1), (2, .int i2), (3, .int i1)] [] (0, 0) h
  else
    some (none, h) := (dzW_at 7 153 _ _ _ _ _).trans rfl
set_option maxRecDepth 100000 in
theorem q_M_sort_12 (a0 : Nat) (i1 : Int32) (i2 : Int32) (i3 : Int32) (h : dzH) : dzF 153 12 [(0, .ref a0), (1, .int i1), (2, .int i2), (3, .int i3)] [] (0, 0) h =
  (dgI h a0 1 8).bind fun v1 =>
  if (i3 + (1 : Int32)) < v1 then
    (dgA h a0 1 9).bind fun r2 =>
    (drI h r2 i3).bind fun v3 =>
    (dgA h a0 1 9).bind fun r4 =>
    (drI h r4 (i3 + (1 : Int32))).bind fun v5 =>
    (c_M_order a0 ((32 : Int32) + v3) ((32 : Int32) + v5) h).bind fun q6 =>
    if q6.1 < 0 then
      dzF 153 116 [(0, .ref a0), (1, .int i1), (2, .int i2), (3, .int i3)] [] (0, 0) q6.2
    else
      (dgA q6.2 a0 1 9).bind fun r7 =>
      (drI q6.2 r7 i3).bind fun v8 =>
      (dgA q6.2 a0 1 9).bind fun r9 =>
      (dgA q6.2 a0 1 9).bind fun r10 =>
      (drI q6.2 r10 (i3 + (1 : Int32))).bind fun v11 =>
      (dwI q6.2 r9 i3 v11).bind fun h12 =>
      (dgA h12 a0 1 9).bind fun r13 =>
      (dwI h12 r13 (i3 + (1 : Int32)) v8).bind fun h14 =>
      (dgA h14 a0 1 10).bind fun r15 =>
      (drI h14 r15 i3).bind fun v16 =>
      (dgA h14 a0 1 10).bind fun r17 =>
      (dgA h14 a0 1 10).bind fun r18 =>
      (drI h14 r18 (i3 + (1 : Int32))).bind fun v19 =>
      (dwI h14 r17 i3 v19).bind fun h20 =>
      (dgA h20 a0 1 10).bind fun r21 =>
      (dwI h20 r21 (i3 + (1 : Int32)) v16).bind fun h22 =>
      dzF 153 116 [(0, .ref a0), (1, .int i1), (2, .int i2), (3, .int i3)] [] (0, 0) h22
  else
    dzF 153 2 [(0, .ref a0), (1, .int i1), (2, .int (i2 + (1 : Int32)))] [] (0, 0) h := (dzW_at 68 153 _ _ _ _ _).trans rfl
theorem q_M_sort_116 (a0 : Nat) (i1 : Int32) (i2 : Int32) (i3 : Int32) (h : dzH) : dzF 153 116 [(0, .ref a0), (1, .int i1), (2, .int i2), (3, .int i3)] [] (0, 0) h =
  dzF 153 12 [(0, .ref a0), (1, .int i1), (2, .int i2), (3, .int (i3 + (1 : Int32)))] [] (0, 0) h := (dzW_at 3 153 _ _ _ _ _).trans rfl
-- PrimeCertificatesModel.find:()Z
theorem q_M_find_0 (a0 : Nat) (h : dzH) : dzF 154 0 [(0, .ref a0)] [] (0, 0) h =
  (dpF h a0 1 8 (.int (0 : Int32))).bind fun h1 =>
  dzF 154 7 [(0, .ref a0), (1, .int (2 : Int32))] [] (0, 0) h1 := (dzW_at 6 154 _ _ _ _ _).trans rfl
theorem q_M_find_7 (a0 : Nat) (i1 : Int32) (h : dzH) : dzF 154 7 [(0, .ref a0), (1, .int i1)] [] (0, 0) h =
  if i1 ≤ (1009 : Int32) then
    (c_M_set a0 (8 : Int32) (Int32.toInt64 i1) h).bind fun h1 =>
    (c_M_isSmallPrime i1 h1).bind fun q2 =>
    if q2.1 = 0 then
      dzF 154 39 [(0, .ref a0), (1, .int i1)] [.int (0 : Int32)] (0, 0) q2.2
    else
      (c_M_often a0 (8 : Int32) q2.2).bind fun q3 =>
      dzF 154 39 [(0, .ref a0), (1, .int i1)] [.int q3.1] (0, 0) q3.2
  else
    (dgI h a0 1 8).bind fun v1 =>
    (c_M_set a0 (9 : Int32) (1009 : Int64) h).bind fun h2 =>
    dzF 154 142 [(0, .ref a0), (1, .int v1), (2, .int (0 : Int32))] [] (0, 0) h2 := (dzW_at 16 154 _ _ _ _ _).trans rfl
theorem q_M_find_39 (a0 : Nat) (i1 : Int32) (si0 : Int32) (h : dzH) : dzF 154 39 [(0, .ref a0), (1, .int i1)] [.int si0] (0, 0) h =
  if si0 = 0 then
    dzF 154 120 [(0, .ref a0), (1, .int i1), (2, .int si0)] [] (0, 0) h
  else
    (c_M_lineOf a0 (8 : Int32) h).bind fun q1 =>
    if q1.1 < 0 then
      (c_M_sayOne a0 i1 q1.2).bind fun q2 =>
      if q2.1 = 0 then
        some (some (.int (0 : Int32)), q2.2)
      else
        dzF 154 66 [(0, .ref a0), (1, .int i1), (2, .int si0), (3, .int q1.1)] [] (0, 0) q2.2
    else
      dzF 154 66 [(0, .ref a0), (1, .int i1), (2, .int si0), (3, .int q1.1)] [] (0, 0) q1.2 := (dzW_at 15 154 _ _ _ _ _).trans rfl
theorem q_M_find_66 (a0 : Nat) (i1 : Int32) (i2 : Int32) (i3 : Int32) (h : dzH) : dzF 154 66 [(0, .ref a0), (1, .int i1), (2, .int i2), (3, .int i3)] [] (0, 0) h =
  (dgI h a0 1 8).bind fun v1 =>
  if v1 = (40 : Int32) then
    some (some (.int (0 : Int32)), h)
  else
    (dgA h a0 1 9).bind fun r2 =>
    (dgI h a0 1 8).bind fun v3 =>
    if i3 < 0 then
      (dgI h a0 1 4).bind fun v4 =>
      dzF 154 99 [(0, .ref a0), (1, .int i1), (2, .int i2), (3, .int i3)] [.int (v4 - (1 : Int32)), .int v3, .ref r2] (0, 0) h
    else
      dzF 154 99 [(0, .ref a0), (1, .int i1), (2, .int i2), (3, .int i3)] [.int i3, .int v3, .ref r2] (0, 0) h := (dzW_at 16 154 _ _ _ _ _).trans rfl
theorem q_M_find_99 (a0 : Nat) (i1 : Int32) (i2 : Int32) (i3 : Int32) (sa0 : Nat) (si1 : Int32) (si2 : Int32) (h : dzH) : dzF 154 99 [(0, .ref a0), (1, .int i1), (2, .int i2), (3, .int i3)] [.int si2, .int si1, .ref sa0] (0, 0) h =
  (dwI h sa0 si1 si2).bind fun h1 =>
  (dgA h1 a0 1 10).bind fun r2 =>
  (dgI h1 a0 1 8).bind fun v3 =>
  (dwI h1 r2 v3 i2).bind fun h4 =>
  (dgI h4 a0 1 8).bind fun v5 =>
  (dpF h4 a0 1 8 (.int (v5 + (1 : Int32)))).bind fun h6 =>
  dzF 154 120 [(0, .ref a0), (1, .int i1), (2, .int i2)] [] (0, 0) h6 := (dzW_at 14 154 _ _ _ _ _).trans rfl
theorem q_M_find_120 (a0 : Nat) (i1 : Int32) (i2 : Int32) (h : dzH) : dzF 154 120 [(0, .ref a0), (1, .int i1), (2, .int i2)] [] (0, 0) h =
  dzF 154 7 [(0, .ref a0), (1, .int (i1 + (1 : Int32)))] [] (0, 0) h := (dzW_at 3 154 _ _ _ _ _).trans rfl
theorem q_M_find_142 (a0 : Nat) (i1 : Int32) (i2 : Int32) (h : dzH) : dzF 154 142 [(0, .ref a0), (1, .int i1), (2, .int i2)] [] (0, 0) h =
  (dgI h a0 1 4).bind fun v1 =>
  if i2 < v1 then
    (c_M_order a0 ((32 : Int32) + i2) (9 : Int32) h).bind fun q2 =>
    if q2.1 ≤ 0 then
      dzF 154 175 [(0, .ref a0), (1, .int i1), (2, .int i2)] [.int (0 : Int32)] (0, 0) q2.2
    else
      (c_M_often a0 ((32 : Int32) + i2) q2.2).bind fun q3 =>
      dzF 154 175 [(0, .ref a0), (1, .int i1), (2, .int i2)] [.int q3.1] (0, 0) q3.2
  else
    (c_M_sort a0 i1 h).bind fun h2 =>
    some (some (.int (1 : Int32)), h2) := (dzW_at 18 154 _ _ _ _ _).trans rfl
theorem q_M_find_175 (a0 : Nat) (i1 : Int32) (i2 : Int32) (si0 : Int32) (h : dzH) : dzF 154 175 [(0, .ref a0), (1, .int i1), (2, .int i2)] [.int si0] (0, 0) h =
  if si0 = 0 then
    dzF 154 224 [(0, .ref a0), (1, .int i1), (2, .int i2), (3, .int si0)] [] (0, 0) h
  else
    (dgI h a0 1 8).bind fun v1 =>
    if v1 = (40 : Int32) then
      some (some (.int (0 : Int32)), h)
    else
      (dgA h a0 1 9).bind fun r2 =>
      (dgI h a0 1 8).bind fun v3 =>
      (dwI h r2 v3 i2).bind fun h4 =>
      (dgA h4 a0 1 10).bind fun r5 =>
      (dgI h4 a0 1 8).bind fun v6 =>
      (dwI h4 r5 v6 si0).bind fun h7 =>
      (dgI h7 a0 1 8).bind fun v8 =>
      (dpF h7 a0 1 8 (.int (v8 + (1 : Int32)))).bind fun h9 =>
      dzF 154 224 [(0, .ref a0), (1, .int i1), (2, .int i2), (3, .int si0)] [] (0, 0) h9 := (dzW_at 26 154 _ _ _ _ _).trans rfl
theorem q_M_find_224 (a0 : Nat) (i1 : Int32) (i2 : Int32) (i3 : Int32) (h : dzH) : dzF 154 224 [(0, .ref a0), (1, .int i1), (2, .int i2), (3, .int i3)] [] (0, 0) h =
  dzF 154 142 [(0, .ref a0), (1, .int i1), (2, .int (i2 + (1 : Int32)))] [] (0, 0) h := (dzW_at 3 154 _ _ _ _ _).trans rfl
-- PrimeCertificatesModel.wholeWitness:()I
theorem q_M_wholeWitness_0 (a0 : Nat) (h : dzH) : dzF 155 0 [(0, .ref a0)] [] (0, 0) h =
  dzF 155 2 [(0, .ref a0), (1, .int (2 : Int32))] [] (0, 0) h := (dzW_at 3 155 _ _ _ _ _).trans rfl
theorem q_M_wholeWitness_2 (a0 : Nat) (i1 : Int32) (h : dzH) : dzF 155 2 [(0, .ref a0), (1, .int i1)] [] (0, 0) h =
  if i1 ≤ (200 : Int32) then
    (c_M_set a0 (14 : Int32) (Int32.toInt64 i1) h).bind fun h1 =>
    (c_M_isWhole a0 h1).bind fun q2 =>
    dzF 155 24 [(0, .ref a0), (1, .int i1), (2, .int q2.1), (3, .int (0 : Int32))] [] (0, 0) q2.2
  else
    some (some (.int (0 : Int32)), h) := (dzW_at 14 155 _ _ _ _ _).trans rfl
theorem q_M_wholeWitness_24 (a0 : Nat) (i1 : Int32) (i2 : Int32) (i3 : Int32) (h : dzH) : dzF 155 24 [(0, .ref a0), (1, .int i1), (2, .int i2), (3, .int i3)] [] (0, 0) h =
  (dgI h a0 1 8).bind fun v1 =>
  if i3 < v1 then
    if i2 = 0 then
      dzF 155 54 [(0, .ref a0), (1, .int i1), (2, .int i2), (3, .int i3)] [] (0, 0) h
    else
      (dgA h a0 1 9).bind fun r2 =>
      (drI h r2 i3).bind fun v3 =>
      (c_M_isRight a0 v3 (0 : Int32) h).bind fun q4 =>
      dzF 155 24 [(0, .ref a0), (1, .int i1), (2, .int q4.1), (3, .int (i3 + (1 : Int32)))] [] (0, 0) q4.2
  else
    dzF 155 54 [(0, .ref a0), (1, .int i1), (2, .int i2), (3, .int i3)] [] (0, 0) h := (dzW_at 17 155 _ _ _ _ _).trans rfl
theorem q_M_wholeWitness_54 (a0 : Nat) (i1 : Int32) (i2 : Int32) (i3 : Int32) (h : dzH) : dzF 155 54 [(0, .ref a0), (1, .int i1), (2, .int i2), (3, .int i3)] [] (0, 0) h =
  if i2 = 0 then
    dzF 155 2 [(0, .ref a0), (1, .int (i1 + (1 : Int32)))] [] (0, 0) h
  else
    some (some (.int i1), h) := (dzW_at 5 155 _ _ _ _ _).trans rfl
-- PrimeCertificatesModel.partWitnesses:()Z
theorem q_M_partWitnesses_0 (a0 : Nat) (h : dzH) : dzF 156 0 [(0, .ref a0)] [] (0, 0) h =
  dzF 156 2 [(0, .ref a0), (1, .int (0 : Int32))] [] (0, 0) h := (dzW_at 3 156 _ _ _ _ _).trans rfl
theorem q_M_partWitnesses_2 (a0 : Nat) (i1 : Int32) (h : dzH) : dzF 156 2 [(0, .ref a0), (1, .int i1)] [] (0, 0) h =
  (dgI h a0 1 8).bind fun v1 =>
  if i1 < v1 then
    dzF 156 14 [(0, .ref a0), (1, .int i1), (2, .int (1 : Int32)), (3, .int (0 : Int32))] [] (0, 0) h
  else
    some (some (.int (1 : Int32)), h) := (dzW_at 9 156 _ _ _ _ _).trans rfl
theorem q_M_partWitnesses_14 (a0 : Nat) (i1 : Int32) (i2 : Int32) (i3 : Int32) (h : dzH) : dzF 156 14 [(0, .ref a0), (1, .int i1), (2, .int i2), (3, .int i3)] [] (0, 0) h =
  if i3 = 0 then
    if i2 < (200 : Int32) then
      (c_M_set a0 (14 : Int32) (Int32.toInt64 (i2 + (1 : Int32))) h).bind fun h1 =>
      (c_M_isWhole a0 h1).bind fun q2 =>
      if q2.1 = 0 then
        dzF 156 61 [(0, .ref a0), (1, .int i1), (2, .int (i2 + (1 : Int32))), (3, .int i3)] [] (0, 0) q2.2
      else
        (dgA q2.2 a0 1 9).bind fun r3 =>
        (drI q2.2 r3 i1).bind fun v4 =>
        (c_M_isRight a0 v4 (1 : Int32) q2.2).bind fun q5 =>
        if q5.1 = 0 then
          dzF 156 61 [(0, .ref a0), (1, .int i1), (2, .int (i2 + (1 : Int32))), (3, .int i3)] [] (0, 0) q5.2
        else
          dzF 156 62 [(0, .ref a0), (1, .int i1), (2, .int (i2 + (1 : Int32))), (3, .int i3)] [.int (1 : Int32)] (0, 0) q5.2
    else
      dzF 156 66 [(0, .ref a0), (1, .int i1), (2, .int i2), (3, .int i3)] [] (0, 0) h
  else
    dzF 156 66 [(0, .ref a0), (1, .int i1), (2, .int i2), (3, .int i3)] [] (0, 0) h := (dzW_at 25 156 _ _ _ _ _).trans rfl
theorem q_M_partWitnesses_61 (a0 : Nat) (i1 : Int32) (i2 : Int32) (i3 : Int32) (h : dzH) : dzF 156 61 [(0, .ref a0), (1, .int i1), (2, .int i2), (3, .int i3)] [] (0, 0) h =
  dzF 156 62 [(0, .ref a0), (1, .int i1), (2, .int i2), (3, .int i3)] [.int (0 : Int32)] (0, 0) h := (dzW_at 2 156 _ _ _ _ _).trans rfl
theorem q_M_partWitnesses_62 (a0 : Nat) (i1 : Int32) (i2 : Int32) (i3 : Int32) (si0 : Int32) (h : dzH) : dzF 156 62 [(0, .ref a0), (1, .int i1), (2, .int i2), (3, .int i3)] [.int si0] (0, 0) h =
  dzF 156 14 [(0, .ref a0), (1, .int i1), (2, .int i2), (3, .int si0)] [] (0, 0) h := (dzW_at 3 156 _ _ _ _ _).trans rfl
theorem q_M_partWitnesses_66 (a0 : Nat) (i1 : Int32) (i2 : Int32) (i3 : Int32) (h : dzH) : dzF 156 66 [(0, .ref a0), (1, .int i1), (2, .int i2), (3, .int i3)] [] (0, 0) h =
  if i3 = 0 then
    some (some (.int (0 : Int32)), h)
  else
    (dgA h a0 1 11).bind fun r1 =>
    (dwI h r1 i1 i2).bind fun h2 =>
    dzF 156 2 [(0, .ref a0), (1, .int (i1 + (1 : Int32)))] [] (0, 0) h2 := (dzW_at 10 156 _ _ _ _ _).trans rfl
-- PrimeCertificatesModel.sayLine:(II)Z
theorem q_M_sayLine_0 (a0 : Nat) (i1 : Int32) (i2 : Int32) (h : dzH) : dzF 157 0 [(0, .ref a0), (1, .int i1), (2, .int i2)] [] (0, 0) h =
  (c_M_lengthOf a0 (10 : Int32) h).bind fun q1 =>
  if (2 : Int32) = 0 then none else
  if i1 = (2 : Int32) then
    (dgI q1.2 a0 1 8).bind fun v2 =>
    dzF 157 36 [(0, .ref a0), (1, .int i1), (2, .int i2), (3, .int ((q1.1 + (1 : Int32)) / (2 : Int32)))] [.int ((1 : Int32) + ((2 : Int32) * v2)), .int ((3 : Int32) + ((q1.1 + (1 : Int32)) / (2 : Int32)))] (0, 0) q1.2
  else
    (dgI q1.2 a0 1 8).bind fun v2 =>
    dzF 157 36 [(0, .ref a0), (1, .int i1), (2, .int i2), (3, .int ((q1.1 + (1 : Int32)) / (2 : Int32)))] [.int ((3 : Int32) * v2), .int ((3 : Int32) + ((q1.1 + (1 : Int32)) / (2 : Int32)))] (0, 0) q1.2 := (dzW_at 22 157 _ _ _ _ _).trans rfl
theorem q_M_sayLine_36 (a0 : Nat) (i1 : Int32) (i2 : Int32) (i3 : Int32) (si0 : Int32) (si1 : Int32) (h : dzH) : dzF 157 36 [(0, .ref a0), (1, .int i1), (2, .int i2), (3, .int i3)] [.int si1, .int si0] (0, 0) h =
  (dgI h a0 1 4).bind fun v1 =>
  if v1 = (200 : Int32) then
    some (some (.int (0 : Int32)), h)
  else
    (dgI h a0 1 2).bind fun v2 =>
    if (v2 + (si0 + si1)) ≤ (4000 : Int32) then
      (c_M_say a0 i1 h).bind fun q3 =>
      (c_M_say a0 i3 q3.2).bind fun q4 =>
      dzF 157 79 [(0, .ref a0), (1, .int i1), (2, .int i2), (3, .int i3), (4, .int (si0 + si1)), (5, .int (0 : Int32))] [] (0, 0) q4.2
    else
      some (some (.int (0 : Int32)), h) := (dzW_at 23 157 _ _ _ _ _).trans rfl
theorem q_M_sayLine_79 (a0 : Nat) (i1 : Int32) (i2 : Int32) (i3 : Int32) (i4 : Int32) (i5 : Int32) (h : dzH) : dzF 157 79 [(0, .ref a0), (1, .int i1), (2, .int i2), (3, .int i3), (4, .int i4), (5, .int i5)] [] (0, 0) h =
  if i5 < i3 then
    (dgA h a0 1 0).bind fun r1 =>
    (drI h r1 (((400 : Int32) + ((2 : Int32) * i5)) + (1 : Int32))).bind fun v2 =>
    (dgA h a0 1 0).bind fun r3 =>
    (drI h r3 ((400 : Int32) + ((2 : Int32) * i5))).bind fun v4 =>
    (c_M_say a0 ((k_ishl v2 (16 : Int32)) ||| v4) h).bind fun q5 =>
    dzF 157 79 [(0, .ref a0), (1, .int i1), (2, .int i2), (3, .int i3), (4, .int i4), (5, .int (i5 + (1 : Int32)))] [] (0, 0) q5.2
  else
    if i1 = (2 : Int32) then
      (c_M_say a0 i2 h).bind fun q1 =>
      dzF 157 139 [(0, .ref a0), (1, .int i1), (2, .int i2), (3, .int i3), (4, .int i4), (5, .int i5)] [] (0, 0) q1.2
    else
      dzF 157 139 [(0, .ref a0), (1, .int i1), (2, .int i2), (3, .int i3), (4, .int i4), (5, .int i5)] [] (0, 0) h := (dzW_at 30 157 _ _ _ _ _).trans rfl
theorem q_M_sayLine_139 (a0 : Nat) (i1 : Int32) (i2 : Int32) (i3 : Int32) (i4 : Int32) (i5 : Int32) (h : dzH) : dzF 157 139 [(0, .ref a0), (1, .int i1), (2, .int i2), (3, .int i3), (4, .int i4), (5, .int i5)] [] (0, 0) h =
  (dgI h a0 1 8).bind fun v1 =>
  (c_M_say a0 v1 h).bind fun q2 =>
  dzF 157 151 [(0, .ref a0), (1, .int i1), (2, .int i2), (3, .int i3), (4, .int i4), (5, .int (0 : Int32))] [] (0, 0) q2.2 := (dzW_at 8 157 _ _ _ _ _).trans rfl
theorem q_M_sayLine_151 (a0 : Nat) (i1 : Int32) (i2 : Int32) (i3 : Int32) (i4 : Int32) (i5 : Int32) (h : dzH) : dzF 157 151 [(0, .ref a0), (1, .int i1), (2, .int i2), (3, .int i3), (4, .int i4), (5, .int i5)] [] (0, 0) h =
  (dgI h a0 1 8).bind fun v1 =>
  if i5 < v1 then
    (dgA h a0 1 9).bind fun r2 =>
    (drI h r2 i5).bind fun v3 =>
    (c_M_say a0 v3 h).bind fun q4 =>
    (dgA q4.2 a0 1 10).bind fun r5 =>
    (drI q4.2 r5 i5).bind fun v6 =>
    (c_M_say a0 v6 q4.2).bind fun q7 =>
    if i1 = (3 : Int32) then
      (dgA q7.2 a0 1 11).bind fun r8 =>
      (drI q7.2 r8 i5).bind fun v9 =>
      (c_M_say a0 v9 q7.2).bind fun q10 =>
      dzF 157 201 [(0, .ref a0), (1, .int i1), (2, .int i2), (3, .int i3), (4, .int i4), (5, .int i5)] [] (0, 0) q10.2
    else
      dzF 157 201 [(0, .ref a0), (1, .int i1), (2, .int i2), (3, .int i3), (4, .int i4), (5, .int i5)] [] (0, 0) q7.2
  else
    (dgI h a0 1 4).bind fun v2 =>
    (c_M_copy a0 (10 : Int32) ((32 : Int32) + v2) h).bind fun h3 =>
    (dgI h3 a0 1 4).bind fun v4 =>
    (dpF h3 a0 1 4 (.int (v4 + (1 : Int32)))).bind fun h5 =>
    some (some (.int (1 : Int32)), h5) := (dzW_at 29 157 _ _ _ _ _).trans rfl
theorem q_M_sayLine_201 (a0 : Nat) (i1 : Int32) (i2 : Int32) (i3 : Int32) (i4 : Int32) (i5 : Int32) (h : dzH) : dzF 157 201 [(0, .ref a0), (1, .int i1), (2, .int i2), (3, .int i3), (4, .int i4), (5, .int i5)] [] (0, 0) h =
  dzF 157 151 [(0, .ref a0), (1, .int i1), (2, .int i2), (3, .int i3), (4, .int i4), (5, .int (i5 + (1 : Int32)))] [] (0, 0) h := (dzW_at 3 157 _ _ _ _ _).trans rfl
-- PrimeCertificatesModel.make:()Z
set_option maxRecDepth 100000 in
theorem q_M_make_0 (a0 : Nat) (h : dzH) : dzF 158 0 [(0, .ref a0)] [] (0, 0) h =
  (c_M_set a0 (8 : Int32) (65535 : Int64) h).bind fun h1 =>
  (c_M_order a0 (10 : Int32) (8 : Int32) h1).bind fun q2 =>
  if q2.1 ≤ 0 then
    (dgA q2.2 a0 1 0).bind fun r3 =>
    (drI q2.2 r3 (400 : Int32)).bind fun v4 =>
    (c_M_isSmallPrime v4 q2.2).bind fun q5 =>
    if q5.1 = 0 then
      some (some (.int (0 : Int32)), q5.2)
    else
      (c_M_sayOne a0 v4 q5.2).bind fun q6 =>
      if q6.1 = 0 then
        some (some (.int (0 : Int32)), q6.2)
      else
        some (some (.int (1 : Int32)), q6.2)
  else
    (c_M_copy a0 (10 : Int32) (11 : Int32) q2.2).bind fun h3 =>
    (c_M_lower a0 (11 : Int32) (21 : Int32) h3).bind fun h4 =>
    (c_M_copy a0 (11 : Int32) (12 : Int32) h4).bind fun h5 =>
    (c_M_find a0 h5).bind fun q6 =>
    if q6.1 = 0 then
      some (some (.int (0 : Int32)), q6.2)
    else
      (c_M_isOne a0 (12 : Int32) q6.2).bind fun q7 =>
      if q7.1 = 0 then
        (c_M_part a0 (11 : Int32) (12 : Int32) (13 : Int32) (16 : Int32) q7.2).bind fun h8 =>
        (c_M_times a0 (13 : Int32) (13 : Int32) (8 : Int32) h8).bind fun h9 =>
        (c_M_order a0 (8 : Int32) (10 : Int32) h9).bind fun q10 =>
        if q10.1 ≤ 0 then
          some (some (.int (0 : Int32)), q10.2)
        else
          (c_M_partWitnesses a0 q10.2).bind fun q11 =>
          if q11.1 = 0 then
            some (some (.int (0 : Int32)), q11.2)
          else
            (c_M_sayLine a0 (3 : Int32) (0 : Int32) q11.2).bind fun q12 =>
            if q12.1 = 0 then
              some (some (.int (0 : Int32)), q12.2)
            else
              some (some (.int (1 : Int32)), q12.2)
      else
        (c_M_wholeWitness a0 q7.2).bind fun q8 =>
        if q8.1 ≤ 0 then
          some (some (.int (0 : Int32)), q8.2)
        else
          (c_M_sayLine a0 (2 : Int32) q8.1 q8.2).bind fun q9 =>
          if q9.1 = 0 then
            some (some (.int (0 : Int32)), q9.2)
          else
            some (some (.int (1 : Int32)), q9.2) := (dzW_at 55 158 _ _ _ _ _).trans rfl
-- PrimeCertificatesModel.prove:(I)I
theorem q_M_prove_0 (a0 : Nat) (i1 : Int32) (h : dzH) : dzF 159 0 [(0, .ref a0), (1, .int i1)] [] (0, 0) h =
  (c_M_isRegister i1 h).bind fun q1 =>
  if q1.1 = 0 then
    some (some (.int (-1 : Int32)), q1.2)
  else
    (c_M_check a0 q1.2).bind fun q2 =>
    if q2.1 < 0 then
      some (some (.int q2.1), q2.2)
    else
      (c_M_copy a0 i1 (10 : Int32) q2.2).bind fun h3 =>
      (c_M_lineOf a0 (10 : Int32) h3).bind fun q4 =>
      if q4.1 < 0 then
        (dgI q4.2 a0 1 2).bind fun v5 =>
        (c_M_make a0 q4.2).bind fun q6 =>
        if q6.1 = 0 then
          (dpF q6.2 a0 1 2 (.int v5)).bind fun h7 =>
          (dpF h7 a0 1 4 (.int q2.1)).bind fun h8 =>
          dzF 159 68 [(0, .ref a0), (1, .int i1), (2, .int q2.1), (3, .int q4.1), (4, .int v5), (5, .int q6.1)] [] (0, 0) h8
        else
          dzF 159 68 [(0, .ref a0), (1, .int i1), (2, .int q2.1), (3, .int q4.1), (4, .int v5), (5, .int q6.1)] [] (0, 0) q6.2
      else
        some (some (.int q4.1), q4.2) := (dzW_at 33 159 _ _ _ _ _).trans rfl
theorem q_M_prove_68 (a0 : Nat) (i1 : Int32) (i2 : Int32) (i3 : Int32) (i4 : Int32) (i5 : Int32) (h : dzH) : dzF 159 68 [(0, .ref a0), (1, .int i1), (2, .int i2), (3, .int i3), (4, .int i4), (5, .int i5)] [] (0, 0) h =
  (dgI h a0 1 4).bind fun v1 =>
  (dpF h a0 1 5 (.int v1)).bind fun h2 =>
  if i5 = 0 then
    some (some (.int (-2 : Int32)), h2)
  else
    (dgI h2 a0 1 4).bind fun v3 =>
    some (some (.int (v3 - (1 : Int32))), h2) := (dzW_at 12 159 _ _ _ _ _).trans rfl
-- PrimeCertificatesLaw.law:([I)Z
theorem q_L_law_0 (a0 : Nat) (h : dzH) : dzF 160 0 [(0, .ref a0)] [] (0, 0) h =
  (c_P_init h.1 (dnO h 0)).bind fun h1 =>
  (c_M_init h1.1 (dnO h1 1)).bind fun h2 =>
  dzF 160 18 [(0, .ref a0), (1, .ref h.1), (2, .ref h1.1), (3, .int (0 : Int32))] [] (253, 19964) h2 := (dzW_at 11 160 _ _ _ _ _).trans rfl
set_option maxRecDepth 100000 in
theorem q_L_law_18 (a0 : Nat) (a1 : Nat) (a2 : Nat) (i3 : Int32) (h : dzH) : dzF 160 18 [(0, .ref a0), (1, .ref a1), (2, .ref a2), (3, .int i3)] [] (253, 19964) h =
  (dln h a0).bind fun v1 =>
  if i3 ≤ (v1 - (5 : Int32)) then
    (drI h a0 i3).bind fun v2 =>
    if (v2 &&& (31 : Int32)) = 0 then
      (drI h a0 (i3 + (1 : Int32))).bind fun v3 =>
      (drI h a0 (i3 + (2 : Int32))).bind fun v4 =>
      (drI h a0 (i3 + (3 : Int32))).bind fun v5 =>
      (c_P_put a1 v3 v4 v5 h).bind fun q6 =>
      (drI q6.2 a0 (i3 + (1 : Int32))).bind fun v7 =>
      (drI q6.2 a0 (i3 + (2 : Int32))).bind fun v8 =>
      (drI q6.2 a0 (i3 + (3 : Int32))).bind fun v9 =>
      (c_M_put a2 v7 v8 v9 q6.2).bind fun q10 =>
      if q6.1 = q10.1 then
        dzF 160 667 [(0, .ref a0), (1, .ref a1), (2, .ref a2), (3, .int i3)] [] (253, 19964) q10.2
      else
        some (some (.int (0 : Int32)), q10.2)
    else
    if (v2 &&& (31 : Int32)) = 1 then
      (drI h a0 (i3 + (1 : Int32))).bind fun v3 =>
      (drI h a0 (i3 + (2 : Int32))).bind fun v4 =>
      (c_P_get a1 v3 v4 h).bind fun q5 =>
      (drI q5.2 a0 (i3 + (1 : Int32))).bind fun v6 =>
      (drI q5.2 a0 (i3 + (2 : Int32))).bind fun v7 =>
      (c_M_get a2 v6 v7 q5.2).bind fun q8 =>
      if q5.1 = q8.1 then
        dzF 160 667 [(0, .ref a0), (1, .ref a1), (2, .ref a2), (3, .int i3)] [] (253, 19964) q8.2
      else
        some (some (.int (0 : Int32)), q8.2)
    else
    if (v2 &&& (31 : Int32)) = 2 then
      (drI h a0 (i3 + (1 : Int32))).bind fun v3 =>
      (drI h a0 (i3 + (2 : Int32))).bind fun v4 =>
      (drI h a0 (i3 + (3 : Int32))).bind fun v5 =>
      (c_P_add a1 v3 v4 v5 h).bind fun q6 =>
      (drI q6.2 a0 (i3 + (1 : Int32))).bind fun v7 =>
      (drI q6.2 a0 (i3 + (2 : Int32))).bind fun v8 =>
      (drI q6.2 a0 (i3 + (3 : Int32))).bind fun v9 =>
      (c_M_add a2 v7 v8 v9 q6.2).bind fun q10 =>
      if q6.1 = q10.1 then
        dzF 160 667 [(0, .ref a0), (1, .ref a1), (2, .ref a2), (3, .int i3)] [] (253, 19964) q10.2
      else
        some (some (.int (0 : Int32)), q10.2)
    else
    if (v2 &&& (31 : Int32)) = 3 then
      (drI h a0 (i3 + (1 : Int32))).bind fun v3 =>
      (drI h a0 (i3 + (2 : Int32))).bind fun v4 =>
      (drI h a0 (i3 + (3 : Int32))).bind fun v5 =>
      (c_P_subtract a1 v3 v4 v5 h).bind fun q6 =>
      (drI q6.2 a0 (i3 + (1 : Int32))).bind fun v7 =>
      (drI q6.2 a0 (i3 + (2 : Int32))).bind fun v8 =>
      (drI q6.2 a0 (i3 + (3 : Int32))).bind fun v9 =>
      (c_M_subtract a2 v7 v8 v9 q6.2).bind fun q10 =>
      if q6.1 = q10.1 then
        dzF 160 667 [(0, .ref a0), (1, .ref a1), (2, .ref a2), (3, .int i3)] [] (253, 19964) q10.2
      else
        some (some (.int (0 : Int32)), q10.2)
    else
    if (v2 &&& (31 : Int32)) = 4 then
      (drI h a0 (i3 + (1 : Int32))).bind fun v3 =>
      (drI h a0 (i3 + (2 : Int32))).bind fun v4 =>
      (drI h a0 (i3 + (3 : Int32))).bind fun v5 =>
      (c_P_multiply a1 v3 v4 v5 h).bind fun q6 =>
      (drI q6.2 a0 (i3 + (1 : Int32))).bind fun v7 =>
      (drI q6.2 a0 (i3 + (2 : Int32))).bind fun v8 =>
      (drI q6.2 a0 (i3 + (3 : Int32))).bind fun v9 =>
      (c_M_multiply a2 v7 v8 v9 q6.2).bind fun q10 =>
      if q6.1 = q10.1 then
        dzF 160 667 [(0, .ref a0), (1, .ref a1), (2, .ref a2), (3, .int i3)] [] (253, 19964) q10.2
      else
        some (some (.int (0 : Int32)), q10.2)
    else
    if (v2 &&& (31 : Int32)) = 5 then
      (drI h a0 (i3 + (1 : Int32))).bind fun v3 =>
      (drI h a0 (i3 + (2 : Int32))).bind fun v4 =>
      (drI h a0 (i3 + (3 : Int32))).bind fun v5 =>
      (drI h a0 (i3 + (4 : Int32))).bind fun v6 =>
      (c_P_divide a1 v3 v4 v5 v6 h).bind fun q7 =>
      (drI q7.2 a0 (i3 + (1 : Int32))).bind fun v8 =>
      (drI q7.2 a0 (i3 + (2 : Int32))).bind fun v9 =>
      (drI q7.2 a0 (i3 + (3 : Int32))).bind fun v10 =>
      (drI q7.2 a0 (i3 + (4 : Int32))).bind fun v11 =>
      (c_M_divide a2 v8 v9 v10 v11 q7.2).bind fun q12 =>
      if q7.1 = q12.1 then
        dzF 160 667 [(0, .ref a0), (1, .ref a1), (2, .ref a2), (3, .int i3)] [] (253, 19964) q12.2
      else
        some (some (.int (0 : Int32)), q12.2)
    else
    if (v2 &&& (31 : Int32)) = 6 then
      (drI h a0 (i3 + (1 : Int32))).bind fun v3 =>
      (drI h a0 (i3 + (2 : Int32))).bind fun v4 =>
      (drI h a0 (i3 + (3 : Int32))).bind fun v5 =>
      (drI h a0 (i3 + (4 : Int32))).bind fun v6 =>
      (c_P_power a1 v3 v4 v5 v6 h).bind fun q7 =>
      (drI q7.2 a0 (i3 + (1 : Int32))).bind fun v8 =>
      (drI q7.2 a0 (i3 + (2 : Int32))).bind fun v9 =>
      (drI q7.2 a0 (i3 + (3 : Int32))).bind fun v10 =>
      (drI q7.2 a0 (i3 + (4 : Int32))).bind fun v11 =>
      (c_M_power a2 v8 v9 v10 v11 q7.2).bind fun q12 =>
      if q7.1 = q12.1 then
        dzF 160 667 [(0, .ref a0), (1, .ref a1), (2, .ref a2), (3, .int i3)] [] (253, 19964) q12.2
      else
        some (some (.int (0 : Int32)), q12.2)
    else
    if (v2 &&& (31 : Int32)) = 7 then
      (drI h a0 (i3 + (1 : Int32))).bind fun v3 =>
      (drI h a0 (i3 + (2 : Int32))).bind fun v4 =>
      (drI h a0 (i3 + (3 : Int32))).bind fun v5 =>
      (c_P_common a1 v3 v4 v5 h).bind fun q6 =>
      (drI q6.2 a0 (i3 + (1 : Int32))).bind fun v7 =>
      (drI q6.2 a0 (i3 + (2 : Int32))).bind fun v8 =>
      (drI q6.2 a0 (i3 + (3 : Int32))).bind fun v9 =>
      (c_M_common a2 v7 v8 v9 q6.2).bind fun q10 =>
      if q6.1 = q10.1 then
        dzF 160 667 [(0, .ref a0), (1, .ref a1), (2, .ref a2), (3, .int i3)] [] (253, 19964) q10.2
      else
        some (some (.int (0 : Int32)), q10.2)
    else
    if (v2 &&& (31 : Int32)) = 8 then
      (drI h a0 (i3 + (1 : Int32))).bind fun v3 =>
      (drI h a0 (i3 + (2 : Int32))).bind fun v4 =>
      (c_P_compare a1 v3 v4 h).bind fun q5 =>
      (drI q5.2 a0 (i3 + (1 : Int32))).bind fun v6 =>
      (drI q5.2 a0 (i3 + (2 : Int32))).bind fun v7 =>
      (c_M_compare a2 v6 v7 q5.2).bind fun q8 =>
      if q5.1 = q8.1 then
        dzF 160 667 [(0, .ref a0), (1, .ref a1), (2, .ref a2), (3, .int i3)] [] (253, 19964) q8.2
      else
        some (some (.int (0 : Int32)), q8.2)
    else
    if (v2 &&& (31 : Int32)) = 9 then
      (drI h a0 (i3 + (1 : Int32))).bind fun v3 =>
      (c_P_say a1 v3 h).bind fun q4 =>
      (drI q4.2 a0 (i3 + (1 : Int32))).bind fun v5 =>
      (c_M_say a2 v5 q4.2).bind fun q6 =>
      if q4.1 = q6.1 then
        dzF 160 667 [(0, .ref a0), (1, .ref a1), (2, .ref a2), (3, .int i3)] [] (253, 19964) q6.2
      else
        some (some (.int (0 : Int32)), q6.2)
    else
    if (v2 &&& (31 : Int32)) = 10 then
      (drI h a0 (i3 + (1 : Int32))).bind fun v3 =>
      (c_P_cut a1 v3 h).bind fun q4 =>
      (drI q4.2 a0 (i3 + (1 : Int32))).bind fun v5 =>
      (c_M_cut a2 v5 q4.2).bind fun q6 =>
      if q4.1 = q6.1 then
        dzF 160 667 [(0, .ref a0), (1, .ref a1), (2, .ref a2), (3, .int i3)] [] (253, 19964) q6.2
      else
        some (some (.int (0 : Int32)), q6.2)
    else
    if (v2 &&& (31 : Int32)) = 11 then
      (c_P_length a1 h).bind fun q3 =>
      (c_M_length a2 q3.2).bind fun q4 =>
      if q3.1 = q4.1 then
        dzF 160 667 [(0, .ref a0), (1, .ref a1), (2, .ref a2), (3, .int i3)] [] (253, 19964) q4.2
      else
        some (some (.int (0 : Int32)), q4.2)
    else
    if (v2 &&& (31 : Int32)) = 12 then
      (drI h a0 (i3 + (1 : Int32))).bind fun v3 =>
      (c_P_at a1 v3 h).bind fun q4 =>
      (drI q4.2 a0 (i3 + (1 : Int32))).bind fun v5 =>
      (c_M_at a2 v5 q4.2).bind fun q6 =>
      if q4.1 = q6.1 then
        dzF 160 667 [(0, .ref a0), (1, .ref a1), (2, .ref a2), (3, .int i3)] [] (253, 19964) q6.2
      else
        some (some (.int (0 : Int32)), q6.2)
    else
    if (v2 &&& (31 : Int32)) = 13 then
      (c_P_check a1 h).bind fun q3 =>
      (c_M_check a2 q3.2).bind fun q4 =>
      if q3.1 = q4.1 then
        dzF 160 667 [(0, .ref a0), (1, .ref a1), (2, .ref a2), (3, .int i3)] [] (253, 19964) q4.2
      else
        some (some (.int (0 : Int32)), q4.2)
    else
    if (v2 &&& (31 : Int32)) = 14 then
      (c_P_place a1 h).bind fun q3 =>
      (c_M_place a2 q3.2).bind fun q4 =>
      if q3.1 = q4.1 then
        dzF 160 667 [(0, .ref a0), (1, .ref a1), (2, .ref a2), (3, .int i3)] [] (253, 19964) q4.2
      else
        some (some (.int (0 : Int32)), q4.2)
    else
    if (v2 &&& (31 : Int32)) = 15 then
      (drI h a0 (i3 + (1 : Int32))).bind fun v3 =>
      (drI h a0 (i3 + (2 : Int32))).bind fun v4 =>
      (c_P_tell a1 v3 v4 h).bind fun q5 =>
      (drI q5.2 a0 (i3 + (1 : Int32))).bind fun v6 =>
      (drI q5.2 a0 (i3 + (2 : Int32))).bind fun v7 =>
      (c_M_tell a2 v6 v7 q5.2).bind fun q8 =>
      if q5.1 = q8.1 then
        dzF 160 667 [(0, .ref a0), (1, .ref a1), (2, .ref a2), (3, .int i3)] [] (253, 19964) q8.2
      else
        some (some (.int (0 : Int32)), q8.2)
    else
    if (v2 &&& (31 : Int32)) = 16 then
      (drI h a0 (i3 + (1 : Int32))).bind fun v3 =>
      (c_P_prove a1 v3 h).bind fun q4 =>
      (drI q4.2 a0 (i3 + (1 : Int32))).bind fun v5 =>
      (c_M_prove a2 v5 q4.2).bind fun q6 =>
      if q4.1 = q6.1 then
        dzF 160 667 [(0, .ref a0), (1, .ref a1), (2, .ref a2), (3, .int i3)] [] (253, 19964) q6.2
      else
        some (some (.int (0 : Int32)), q6.2)
    else
      dzF 160 667 [(0, .ref a0), (1, .ref a1), (2, .ref a2), (3, .int i3)] [] (253, 19964) h
  else
    some (some (.int (1 : Int32)), h) := (dzW_at 59 160 _ _ _ _ _).trans rfl
theorem q_L_law_667 (a0 : Nat) (a1 : Nat) (a2 : Nat) (i3 : Int32) (h : dzH) : dzF 160 667 [(0, .ref a0), (1, .ref a1), (2, .ref a2), (3, .int i3)] [] (253, 19964) h =
  dzF 160 18 [(0, .ref a0), (1, .ref a1), (2, .ref a2), (3, .int (i3 + (5 : Int32)))] [] (253, 19964) h := (dzW_at 3 160 _ _ _ _ _).trans rfl
