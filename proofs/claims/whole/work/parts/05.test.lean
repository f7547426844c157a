theorem test1 (X : List Cond) : (vx_atS RX9 76 "java/lang/IllegalStateException" ["java/lang/RuntimeException", "java/lang/Exception"]).filter (fun w => !goodWord w) = X := by
  simp [vx_atS, Bundle.ownAtoms, Bundle.throwableAtoms, Bundle.throwableSAtoms, Bundle.chainSAtoms, Bundle.passSAtoms, goodWord, Cond.onTables, Cond.keeps, Cond.steady, vx_no, List.filter]
