theorem m_53 : Cond.initialized RL ∈ Ug := Ug_at 53 (by decide +kernel) (by decide +kernel)
theorem m_144 : Cond.methodLink RL 213 yX1_relationCount ∈ Ug := Ug_at 144 (by decide +kernel) (by decide +kernel)
theorem m_145 : Cond.instanceMethod yX1_relationCount ∈ Ug := Ug_at 145 (by decide +kernel) (by decide +kernel)
theorem m_146 : Cond.selects RX1 yX1_relationCount yX1_relationCount ∈ Ug := Ug_at 146 (by decide +kernel) (by decide +kernel)
theorem m_147 : Cond.code yX1_relationCount cX1_relationCount 1 (some .int) ∈ Ug := Ug_at 147 (by decide +kernel) (by decide +kernel)
theorem m_148 : Cond.methodLink RL 220 yX1_clear ∈ Ug := Ug_at 148 (by decide +kernel) (by decide +kernel)
theorem m_149 : Cond.instanceMethod yX1_clear ∈ Ug := Ug_at 149 (by decide +kernel) (by decide +kernel)
theorem m_150 : Cond.selects RX1 yX1_clear yX1_clear ∈ Ug := Ug_at 150 (by decide +kernel) (by decide +kernel)
theorem m_151 : Cond.code yX1_clear cX1_clear 2 (some .int) ∈ Ug := Ug_at 151 (by decide +kernel) (by decide +kernel)
theorem m_152 : Cond.methodLink RL 293 yX1_solutionCount ∈ Ug := Ug_at 152 (by decide +kernel) (by decide +kernel)
theorem m_153 : Cond.instanceMethod yX1_solutionCount ∈ Ug := Ug_at 153 (by decide +kernel) (by decide +kernel)
theorem m_154 : Cond.selects RX1 yX1_solutionCount yX1_solutionCount ∈ Ug := Ug_at 154 (by decide +kernel) (by decide +kernel)
theorem m_155 : Cond.code yX1_solutionCount cX1_solutionCount 1 (some .int) ∈ Ug := Ug_at 155 (by decide +kernel) (by decide +kernel)
theorem m_200 : Cond.methodLink RL 325 yX1_removeRedundant ∈ Ug := Ug_at 200 (by decide +kernel) (by decide +kernel)
theorem m_201 : Cond.instanceMethod yX1_removeRedundant ∈ Ug := Ug_at 201 (by decide +kernel) (by decide +kernel)
theorem m_202 : Cond.selects RX1 yX1_removeRedundant yX1_removeRedundant ∈ Ug := Ug_at 202 (by decide +kernel) (by decide +kernel)
theorem m_203 : Cond.code yX1_removeRedundant cX1_removeRedundant 3 (some .int) ∈ Ug := Ug_at 203 (by decide +kernel) (by decide +kernel)
theorem m_218 : Cond.methodLink RL 355 yX1_saveSnapshot ∈ Ug := Ug_at 218 (by decide +kernel) (by decide +kernel)
theorem m_219 : Cond.instanceMethod yX1_saveSnapshot ∈ Ug := Ug_at 219 (by decide +kernel) (by decide +kernel)
theorem m_220 : Cond.selects RX1 yX1_saveSnapshot yX1_saveSnapshot ∈ Ug := Ug_at 220 (by decide +kernel) (by decide +kernel)
theorem m_221 : Cond.code yX1_saveSnapshot cX1_saveSnapshot 1 (some .int) ∈ Ug := Ug_at 221 (by decide +kernel) (by decide +kernel)
theorem m_229 : Cond.methodLink RL 182 yL_addRelation ∈ Ug := Ug_at 229 (by decide +kernel) (by decide +kernel)
theorem m_230 : Cond.static yL_addRelation ∈ Ug := Ug_at 230 (by decide +kernel) (by decide +kernel)
theorem m_231 : Cond.codeWith yL_addRelation cL_addRelation 4 (some .int) [(0, 9, 12, 13), (0, 9, 15, 15)] ∈ Ug := Ug_at 231 (by decide +kernel) (by decide +kernel)
theorem m_335 : Cond.methodLink RL 191 yL_addClause ∈ Ug := Ug_at 335 (by decide +kernel) (by decide +kernel)
theorem m_336 : Cond.static yL_addClause ∈ Ug := Ug_at 336 (by decide +kernel) (by decide +kernel)
theorem m_337 : Cond.codeWith yL_addClause cL_addClause 5 (some .int) [(0, 10, 13, 13), (0, 10, 17, 15)] ∈ Ug := Ug_at 337 (by decide +kernel) (by decide +kernel)
theorem m_347 : Cond.methodLink RL 195 yL_addParity ∈ Ug := Ug_at 347 (by decide +kernel) (by decide +kernel)
theorem m_348 : Cond.static yL_addParity ∈ Ug := Ug_at 348 (by decide +kernel) (by decide +kernel)
theorem m_349 : Cond.codeWith yL_addParity cL_addParity 5 (some .int) [(0, 10, 13, 13), (0, 10, 17, 15)] ∈ Ug := Ug_at 349 (by decide +kernel) (by decide +kernel)
theorem m_361 : Cond.methodLink RL 198 yL_addTuple ∈ Ug := Ug_at 361 (by decide +kernel) (by decide +kernel)
theorem m_362 : Cond.static yL_addTuple ∈ Ug := Ug_at 362 (by decide +kernel) (by decide +kernel)
theorem m_363 : Cond.codeWith yL_addTuple cL_addTuple 5 (some .int) [(0, 17, 20, 28), (0, 17, 24, 13)] ∈ Ug := Ug_at 363 (by decide +kernel) (by decide +kernel)
theorem m_395 : Cond.methodLink RL 201 yL_removeTuple ∈ Ug := Ug_at 395 (by decide +kernel) (by decide +kernel)
theorem m_396 : Cond.static yL_removeTuple ∈ Ug := Ug_at 396 (by decide +kernel) (by decide +kernel)
theorem m_397 : Cond.codeWith yL_removeTuple cL_removeTuple 5 (some .int) [(0, 17, 20, 28), (0, 17, 24, 13)] ∈ Ug := Ug_at 397 (by decide +kernel) (by decide +kernel)
theorem m_402 : Cond.methodLink RL 204 yL_contains ∈ Ug := Ug_at 402 (by decide +kernel) (by decide +kernel)
theorem m_403 : Cond.static yL_contains ∈ Ug := Ug_at 403 (by decide +kernel) (by decide +kernel)
theorem m_404 : Cond.codeWith yL_contains cL_contains 5 (some .int) [(0, 17, 20, 28), (0, 17, 24, 13)] ∈ Ug := Ug_at 404 (by decide +kernel) (by decide +kernel)
theorem m_409 : Cond.methodLink RL 207 yL_tupleCount ∈ Ug := Ug_at 409 (by decide +kernel) (by decide +kernel)
theorem m_410 : Cond.static yL_tupleCount ∈ Ug := Ug_at 410 (by decide +kernel) (by decide +kernel)
theorem m_411 : Cond.codeWith yL_tupleCount cL_tupleCount 4 (some .int) [(0, 9, 12, 28)] ∈ Ug := Ug_at 411 (by decide +kernel) (by decide +kernel)
theorem m_416 : Cond.methodLink RL 210 yL_arity ∈ Ug := Ug_at 416 (by decide +kernel) (by decide +kernel)
theorem m_417 : Cond.static yL_arity ∈ Ug := Ug_at 417 (by decide +kernel) (by decide +kernel)
theorem m_418 : Cond.codeWith yL_arity cL_arity 4 (some .int) [(0, 9, 12, 28)] ∈ Ug := Ug_at 418 (by decide +kernel) (by decide +kernel)
theorem m_423 : Cond.methodLink RL 217 yL_areEqual ∈ Ug := Ug_at 423 (by decide +kernel) (by decide +kernel)
theorem m_424 : Cond.static yL_areEqual ∈ Ug := Ug_at 424 (by decide +kernel) (by decide +kernel)
theorem m_425 : Cond.codeWith yL_areEqual cL_areEqual 5 (some .int) [(0, 17, 20, 28)] ∈ Ug := Ug_at 425 (by decide +kernel) (by decide +kernel)
theorem m_430 : Cond.methodLink RL 224 yL_addComplement ∈ Ug := Ug_at 430 (by decide +kernel) (by decide +kernel)
theorem m_431 : Cond.static yL_addComplement ∈ Ug := Ug_at 431 (by decide +kernel) (by decide +kernel)
theorem m_432 : Cond.codeWith yL_addComplement cL_addComplement 4 (some .int) [(0, 9, 12, 28), (0, 9, 15, 15)] ∈ Ug := Ug_at 432 (by decide +kernel) (by decide +kernel)
theorem m_437 : Cond.methodLink RL 227 yL_addIntersection ∈ Ug := Ug_at 437 (by decide +kernel) (by decide +kernel)
theorem m_438 : Cond.static yL_addIntersection ∈ Ug := Ug_at 438 (by decide +kernel) (by decide +kernel)
theorem m_439 : Cond.codeWith yL_addIntersection cL_addIntersection 5 (some .int) [(0, 10, 13, 28), (0, 10, 17, 13), (0, 10, 21, 15)] ∈ Ug := Ug_at 439 (by decide +kernel) (by decide +kernel)
theorem m_445 : Cond.methodLink RL 230 yL_addProjection ∈ Ug := Ug_at 445 (by decide +kernel) (by decide +kernel)
theorem m_446 : Cond.static yL_addProjection ∈ Ug := Ug_at 446 (by decide +kernel) (by decide +kernel)
theorem m_447 : Cond.codeWith yL_addProjection cL_addProjection 5 (some .int) [(0, 10, 13, 28), (0, 10, 17, 13), (0, 10, 21, 15)] ∈ Ug := Ug_at 447 (by decide +kernel) (by decide +kernel)
theorem m_461 : Cond.methodLink RL 233 yL_addExchanged ∈ Ug := Ug_at 461 (by decide +kernel) (by decide +kernel)
theorem m_462 : Cond.static yL_addExchanged ∈ Ug := Ug_at 462 (by decide +kernel) (by decide +kernel)
theorem m_463 : Cond.codeWith yL_addExchanged cL_addExchanged 6 (some .int) [(0, 12, 15, 28), (0, 12, 19, 15)] ∈ Ug := Ug_at 463 (by decide +kernel) (by decide +kernel)
theorem m_471 : Cond.methodLink RL 237 yL_apply ∈ Ug := Ug_at 471 (by decide +kernel) (by decide +kernel)
theorem m_472 : Cond.static yL_apply ∈ Ug := Ug_at 472 (by decide +kernel) (by decide +kernel)
theorem m_473 : Cond.codeWith yL_apply cL_apply 8 (some .int) [(0, 16, 19, 13)] ∈ Ug := Ug_at 473 (by decide +kernel) (by decide +kernel)
theorem m_488 : Cond.methodLink RL 241 yL_preserves ∈ Ug := Ug_at 488 (by decide +kernel) (by decide +kernel)
theorem m_489 : Cond.static yL_preserves ∈ Ug := Ug_at 489 (by decide +kernel) (by decide +kernel)
theorem m_490 : Cond.codeWith yL_preserves cL_preserves 6 (some .int) [(0, 19, 22, 13), (0, 19, 26, 28)] ∈ Ug := Ug_at 490 (by decide +kernel) (by decide +kernel)
theorem m_508 : Cond.methodLink RL 244 yL_isPolymorphism ∈ Ug := Ug_at 508 (by decide +kernel) (by decide +kernel)
theorem m_509 : Cond.static yL_isPolymorphism ∈ Ug := Ug_at 509 (by decide +kernel) (by decide +kernel)
theorem m_510 : Cond.codeWith yL_isPolymorphism cL_isPolymorphism 5 (some .int) [(0, 17, 20, 13)] ∈ Ug := Ug_at 510 (by decide +kernel) (by decide +kernel)
theorem m_519 : Cond.methodLink RL 247 yL_polymorphismCount ∈ Ug := Ug_at 519 (by decide +kernel) (by decide +kernel)
theorem m_520 : Cond.static yL_polymorphismCount ∈ Ug := Ug_at 520 (by decide +kernel) (by decide +kernel)
theorem m_521 : Cond.codeWith yL_polymorphismCount cL_polymorphismCount 4 (some .int) [(0, 9, 12, 13)] ∈ Ug := Ug_at 521 (by decide +kernel) (by decide +kernel)
theorem m_526 : Cond.methodLink RL 250 yL_polymorphism ∈ Ug := Ug_at 526 (by decide +kernel) (by decide +kernel)
theorem m_527 : Cond.static yL_polymorphism ∈ Ug := Ug_at 527 (by decide +kernel) (by decide +kernel)
theorem m_528 : Cond.codeWith yL_polymorphism cL_polymorphism 5 (some .int) [(0, 10, 13, 13), (0, 10, 17, 75)] ∈ Ug := Ug_at 528 (by decide +kernel) (by decide +kernel)
theorem m_550 : Cond.methodLink RL 253 yL_isIdempotent ∈ Ug := Ug_at 550 (by decide +kernel) (by decide +kernel)
theorem m_551 : Cond.static yL_isIdempotent ∈ Ug := Ug_at 551 (by decide +kernel) (by decide +kernel)
theorem m_552 : Cond.codeWith yL_isIdempotent cL_isIdempotent 5 (some .int) [(0, 17, 20, 13)] ∈ Ug := Ug_at 552 (by decide +kernel) (by decide +kernel)
theorem m_557 : Cond.methodLink RL 256 yL_isMonotone ∈ Ug := Ug_at 557 (by decide +kernel) (by decide +kernel)
theorem m_558 : Cond.static yL_isMonotone ∈ Ug := Ug_at 558 (by decide +kernel) (by decide +kernel)
theorem m_559 : Cond.codeWith yL_isMonotone cL_isMonotone 5 (some .int) [(0, 17, 20, 13)] ∈ Ug := Ug_at 559 (by decide +kernel) (by decide +kernel)
theorem m_575 : Cond.methodLink RL 259 yL_projectedArgument ∈ Ug := Ug_at 575 (by decide +kernel) (by decide +kernel)
theorem m_576 : Cond.static yL_projectedArgument ∈ Ug := Ug_at 576 (by decide +kernel) (by decide +kernel)
theorem m_577 : Cond.codeWith yL_projectedArgument cL_projectedArgument 5 (some .int) [(0, 10, 13, 13), (0, 10, 17, 75)] ∈ Ug := Ug_at 577 (by decide +kernel) (by decide +kernel)
theorem m_583 : Cond.methodLink RL 262 yL_close ∈ Ug := Ug_at 583 (by decide +kernel) (by decide +kernel)
theorem m_584 : Cond.static yL_close ∈ Ug := Ug_at 584 (by decide +kernel) (by decide +kernel)
theorem m_585 : Cond.codeWith yL_close cL_close 6 (some .int) [(0, 12, 15, 28), (0, 12, 19, 13)] ∈ Ug := Ug_at 585 (by decide +kernel) (by decide +kernel)
theorem m_590 : Cond.methodLink RL 265 yL_dual ∈ Ug := Ug_at 590 (by decide +kernel) (by decide +kernel)
theorem m_591 : Cond.static yL_dual ∈ Ug := Ug_at 591 (by decide +kernel) (by decide +kernel)
theorem m_592 : Cond.codeWith yL_dual cL_dual 5 (some .int) [(0, 10, 13, 13)] ∈ Ug := Ug_at 592 (by decide +kernel) (by decide +kernel)
theorem m_597 : Cond.methodLink RL 268 yL_dependsOn ∈ Ug := Ug_at 597 (by decide +kernel) (by decide +kernel)
theorem m_598 : Cond.static yL_dependsOn ∈ Ug := Ug_at 598 (by decide +kernel) (by decide +kernel)
theorem m_599 : Cond.codeWith yL_dependsOn cL_dependsOn 6 (some .int) [(0, 19, 22, 13), (0, 19, 26, 28)] ∈ Ug := Ug_at 599 (by decide +kernel) (by decide +kernel)
theorem m_605 : Cond.methodLink RL 271 yL_compose ∈ Ug := Ug_at 605 (by decide +kernel) (by decide +kernel)
theorem m_606 : Cond.static yL_compose ∈ Ug := Ug_at 606 (by decide +kernel) (by decide +kernel)
theorem m_607 : Cond.codeWith yL_compose cL_compose 6 (some .int) [(0, 12, 15, 13)] ∈ Ug := Ug_at 607 (by decide +kernel) (by decide +kernel)
theorem m_613 : Cond.methodLink RL 274 yL_relationHasKind ∈ Ug := Ug_at 613 (by decide +kernel) (by decide +kernel)
theorem m_614 : Cond.static yL_relationHasKind ∈ Ug := Ug_at 614 (by decide +kernel) (by decide +kernel)
theorem m_615 : Cond.codeWith yL_relationHasKind cL_relationHasKind 5 (some .int) [(0, 17, 20, 28), (0, 17, 24, 13)] ∈ Ug := Ug_at 615 (by decide +kernel) (by decide +kernel)
theorem m_628 : Cond.methodLink RL 277 yL_hasKind ∈ Ug := Ug_at 628 (by decide +kernel) (by decide +kernel)
theorem m_629 : Cond.static yL_hasKind ∈ Ug := Ug_at 629 (by decide +kernel) (by decide +kernel)
theorem m_630 : Cond.codeWith yL_hasKind cL_hasKind 4 (some .int) [(0, 16, 19, 13)] ∈ Ug := Ug_at 630 (by decide +kernel) (by decide +kernel)
theorem m_639 : Cond.methodLink RL 280 yL_lowestKind ∈ Ug := Ug_at 639 (by decide +kernel) (by decide +kernel)
theorem m_640 : Cond.static yL_lowestKind ∈ Ug := Ug_at 640 (by decide +kernel) (by decide +kernel)
theorem m_641 : Cond.codeWith yL_lowestKind cL_lowestKind 3 (some .int) [(0, 8, 11, 75)] ∈ Ug := Ug_at 641 (by decide +kernel) (by decide +kernel)
theorem m_647 : Cond.methodLink RL 284 yL_setVariables ∈ Ug := Ug_at 647 (by decide +kernel) (by decide +kernel)
theorem m_648 : Cond.static yL_setVariables ∈ Ug := Ug_at 648 (by decide +kernel) (by decide +kernel)
theorem m_649 : Cond.codeWith yL_setVariables cL_setVariables 4 (some .int) [(0, 9, 12, 13)] ∈ Ug := Ug_at 649 (by decide +kernel) (by decide +kernel)
theorem m_655 : Cond.methodLink RL 287 yL_addConstraint ∈ Ug := Ug_at 655 (by decide +kernel) (by decide +kernel)
theorem m_656 : Cond.static yL_addConstraint ∈ Ug := Ug_at 656 (by decide +kernel) (by decide +kernel)
theorem m_657 : Cond.codeWith yL_addConstraint cL_addConstraint 8 (some .int) [(0, 16, 19, 28), (0, 16, 23, 15)] ∈ Ug := Ug_at 657 (by decide +kernel) (by decide +kernel)
theorem m_675 : Cond.methodLink RL 290 yL_removeLastConstraint ∈ Ug := Ug_at 675 (by decide +kernel) (by decide +kernel)
theorem m_676 : Cond.static yL_removeLastConstraint ∈ Ug := Ug_at 676 (by decide +kernel) (by decide +kernel)
theorem m_677 : Cond.codeWith yL_removeLastConstraint cL_removeLastConstraint 3 (some .int) [(0, 8, 11, 15)] ∈ Ug := Ug_at 677 (by decide +kernel) (by decide +kernel)
theorem m_683 : Cond.methodLink RL 297 yL_solution ∈ Ug := Ug_at 683 (by decide +kernel) (by decide +kernel)
theorem m_684 : Cond.static yL_solution ∈ Ug := Ug_at 684 (by decide +kernel) (by decide +kernel)
theorem m_685 : Cond.codeWith yL_solution cL_solution 4 (some .int) [(0, 9, 12, 75)] ∈ Ug := Ug_at 685 (by decide +kernel) (by decide +kernel)
theorem m_698 : Cond.methodLink RL 300 yL_isForced ∈ Ug := Ug_at 698 (by decide +kernel) (by decide +kernel)
theorem m_699 : Cond.static yL_isForced ∈ Ug := Ug_at 699 (by decide +kernel) (by decide +kernel)
theorem m_700 : Cond.codeWith yL_isForced cL_isForced 5 (some .int) [(0, 17, 20, 28), (0, 17, 24, 13)] ∈ Ug := Ug_at 700 (by decide +kernel) (by decide +kernel)
theorem m_712 : Cond.methodLink RL 303 yL_leastSolution ∈ Ug := Ug_at 712 (by decide +kernel) (by decide +kernel)
theorem m_713 : Cond.static yL_leastSolution ∈ Ug := Ug_at 713 (by decide +kernel) (by decide +kernel)
theorem m_714 : Cond.codeWith yL_leastSolution cL_leastSolution 3 (some .int) [(0, 8, 11, 127), (0, 8, 14, 75)] ∈ Ug := Ug_at 714 (by decide +kernel) (by decide +kernel)
theorem m_749 : Cond.methodLink RL 306 yL_greatestSolution ∈ Ug := Ug_at 749 (by decide +kernel) (by decide +kernel)
theorem m_750 : Cond.static yL_greatestSolution ∈ Ug := Ug_at 750 (by decide +kernel) (by decide +kernel)
theorem m_751 : Cond.codeWith yL_greatestSolution cL_greatestSolution 3 (some .int) [(0, 8, 11, 127), (0, 8, 14, 75)] ∈ Ug := Ug_at 751 (by decide +kernel) (by decide +kernel)
theorem m_756 : Cond.methodLink RL 309 yL_implies ∈ Ug := Ug_at 756 (by decide +kernel) (by decide +kernel)
theorem m_757 : Cond.static yL_implies ∈ Ug := Ug_at 757 (by decide +kernel) (by decide +kernel)
theorem m_758 : Cond.codeWith yL_implies cL_implies 7 (some .int) [(0, 21, 24, 127), (0, 21, 28, 28), (0, 21, 32, 13)] ∈ Ug := Ug_at 758 (by decide +kernel) (by decide +kernel)
theorem m_767 : Cond.methodLink RL 313 yL_dimension ∈ Ug := Ug_at 767 (by decide +kernel) (by decide +kernel)
theorem m_768 : Cond.static yL_dimension ∈ Ug := Ug_at 768 (by decide +kernel) (by decide +kernel)
theorem m_769 : Cond.codeWith yL_dimension cL_dimension 3 (some .int) [(0, 8, 11, 127), (0, 8, 14, 75)] ∈ Ug := Ug_at 769 (by decide +kernel) (by decide +kernel)
theorem m_774 : Cond.methodLink RL 316 yL_define ∈ Ug := Ug_at 774 (by decide +kernel) (by decide +kernel)
theorem m_775 : Cond.static yL_define ∈ Ug := Ug_at 775 (by decide +kernel) (by decide +kernel)
theorem m_776 : Cond.codeWith yL_define cL_define 8 (some .int) [(0, 16, 19, 13), (0, 16, 23, 28), (0, 16, 27, 15)] ∈ Ug := Ug_at 776 (by decide +kernel) (by decide +kernel)
theorem m_786 : Cond.methodLink RL 319 yL_firstViolated ∈ Ug := Ug_at 786 (by decide +kernel) (by decide +kernel)
theorem m_787 : Cond.static yL_firstViolated ∈ Ug := Ug_at 787 (by decide +kernel) (by decide +kernel)
theorem m_788 : Cond.codeWith yL_firstViolated cL_firstViolated 4 (some .int) [(0, 9, 12, 13), (0, 9, 15, 75)] ∈ Ug := Ug_at 788 (by decide +kernel) (by decide +kernel)
theorem m_799 : Cond.methodLink RL 322 yL_isRedundant ∈ Ug := Ug_at 799 (by decide +kernel) (by decide +kernel)
theorem m_800 : Cond.static yL_isRedundant ∈ Ug := Ug_at 800 (by decide +kernel) (by decide +kernel)
theorem m_801 : Cond.codeWith yL_isRedundant cL_isRedundant 4 (some .int) [(0, 16, 19, 28)] ∈ Ug := Ug_at 801 (by decide +kernel) (by decide +kernel)
theorem m_807 : Cond.methodLink RL 329 yL_append ∈ Ug := Ug_at 807 (by decide +kernel) (by decide +kernel)
theorem m_808 : Cond.static yL_append ∈ Ug := Ug_at 808 (by decide +kernel) (by decide +kernel)
theorem m_809 : Cond.codeWith yL_append cL_append 4 (some .int) [(0, 9, 12, 13), (0, 9, 15, 15)] ∈ Ug := Ug_at 809 (by decide +kernel) (by decide +kernel)
theorem m_816 : Cond.methodLink RL 333 yL_parse ∈ Ug := Ug_at 816 (by decide +kernel) (by decide +kernel)
theorem m_817 : Cond.static yL_parse ∈ Ug := Ug_at 817 (by decide +kernel) (by decide +kernel)
theorem m_818 : Cond.codeWith yL_parse cL_parse 3 (some .int) [(0, 8, 11, 13), (0, 8, 14, 15)] ∈ Ug := Ug_at 818 (by decide +kernel) (by decide +kernel)
theorem m_842 : Cond.methodLink RL 336 yL_errorPosition ∈ Ug := Ug_at 842 (by decide +kernel) (by decide +kernel)
theorem m_843 : Cond.static yL_errorPosition ∈ Ug := Ug_at 843 (by decide +kernel) (by decide +kernel)
theorem m_844 : Cond.codeWith yL_errorPosition cL_errorPosition 3 (some .int) [(0, 8, 11, 15)] ∈ Ug := Ug_at 844 (by decide +kernel) (by decide +kernel)
theorem m_850 : Cond.methodLink RL 339 yL_write ∈ Ug := Ug_at 850 (by decide +kernel) (by decide +kernel)
theorem m_851 : Cond.static yL_write ∈ Ug := Ug_at 851 (by decide +kernel) (by decide +kernel)
theorem m_852 : Cond.codeWith yL_write cL_write 4 (some .int) [(0, 9, 12, 28)] ∈ Ug := Ug_at 852 (by decide +kernel) (by decide +kernel)
theorem m_865 : Cond.methodLink RL 342 yL_outputAt ∈ Ug := Ug_at 865 (by decide +kernel) (by decide +kernel)
theorem m_866 : Cond.static yL_outputAt ∈ Ug := Ug_at 866 (by decide +kernel) (by decide +kernel)
theorem m_867 : Cond.codeWith yL_outputAt cL_outputAt 4 (some .int) [(0, 9, 12, 28)] ∈ Ug := Ug_at 867 (by decide +kernel) (by decide +kernel)
theorem m_873 : Cond.methodLink RL 345 yL_storeFlags ∈ Ug := Ug_at 873 (by decide +kernel) (by decide +kernel)
theorem m_874 : Cond.static yL_storeFlags ∈ Ug := Ug_at 874 (by decide +kernel) (by decide +kernel)
theorem m_875 : Cond.codeWith yL_storeFlags cL_storeFlags 6 (some .int) [(0, 12, 15, 28), (0, 12, 19, 13)] ∈ Ug := Ug_at 875 (by decide +kernel) (by decide +kernel)
theorem m_885 : Cond.methodLink RL 348 yL_setFlag ∈ Ug := Ug_at 885 (by decide +kernel) (by decide +kernel)
theorem m_886 : Cond.static yL_setFlag ∈ Ug := Ug_at 886 (by decide +kernel) (by decide +kernel)
theorem m_887 : Cond.codeWith yL_setFlag cL_setFlag 6 (some .int) [(0, 19, 22, 28), (0, 19, 26, 15)] ∈ Ug := Ug_at 887 (by decide +kernel) (by decide +kernel)
theorem m_898 : Cond.methodLink RL 352 yL_takeFlags ∈ Ug := Ug_at 898 (by decide +kernel) (by decide +kernel)
theorem m_899 : Cond.static yL_takeFlags ∈ Ug := Ug_at 899 (by decide +kernel) (by decide +kernel)
theorem m_900 : Cond.codeWith yL_takeFlags cL_takeFlags 5 (some .int) [(0, 10, 13, 28), (0, 10, 17, 15)] ∈ Ug := Ug_at 900 (by decide +kernel) (by decide +kernel)
theorem m_905 : Cond.methodLink RL 359 yL_restoreSnapshot ∈ Ug := Ug_at 905 (by decide +kernel) (by decide +kernel)
theorem m_906 : Cond.static yL_restoreSnapshot ∈ Ug := Ug_at 906 (by decide +kernel) (by decide +kernel)
theorem m_907 : Cond.codeWith yL_restoreSnapshot cL_restoreSnapshot 3 (some .int) [(0, 8, 11, 15)] ∈ Ug := Ug_at 907 (by decide +kernel) (by decide +kernel)
theorem m_984 : Cond.methodLink RL 188 yX2_thrown ∈ Ug := Ug_at 984 (by decide +kernel) (by decide +kernel)
theorem m_985 : Cond.instanceMethod yX2_thrown ∈ Ug := Ug_at 985 (by decide +kernel) (by decide +kernel)
theorem m_986 : Cond.selects RX2 yX2_thrown yX2_thrown ∈ Ug := Ug_at 986 (by decide +kernel) (by decide +kernel)
theorem m_987 : Cond.code yX2_thrown cX2_thrown 1 (some .int) ∈ Ug := Ug_at 987 (by decide +kernel) (by decide +kernel)
theorem m_988 : Cond.methodLink RL 187 yX2_addRelation ∈ Ug := Ug_at 988 (by decide +kernel) (by decide +kernel)
theorem m_989 : Cond.instanceMethod yX2_addRelation ∈ Ug := Ug_at 989 (by decide +kernel) (by decide +kernel)
theorem m_990 : Cond.selects RX2 yX2_addRelation yX2_addRelation ∈ Ug := Ug_at 990 (by decide +kernel) (by decide +kernel)
theorem m_991 : Cond.code yX2_addRelation cX2_addRelation 2 (some .int) ∈ Ug := Ug_at 991 (by decide +kernel) (by decide +kernel)
theorem m_1003 : Cond.methodLink RL 194 yX2_addClause ∈ Ug := Ug_at 1003 (by decide +kernel) (by decide +kernel)
theorem m_1004 : Cond.instanceMethod yX2_addClause ∈ Ug := Ug_at 1004 (by decide +kernel) (by decide +kernel)
theorem m_1005 : Cond.selects RX2 yX2_addClause yX2_addClause ∈ Ug := Ug_at 1005 (by decide +kernel) (by decide +kernel)
theorem m_1006 : Cond.code yX2_addClause cX2_addClause 3 (some .int) ∈ Ug := Ug_at 1006 (by decide +kernel) (by decide +kernel)
theorem m_1013 : Cond.methodLink RL 197 yX2_addParity ∈ Ug := Ug_at 1013 (by decide +kernel) (by decide +kernel)
theorem m_1014 : Cond.instanceMethod yX2_addParity ∈ Ug := Ug_at 1014 (by decide +kernel) (by decide +kernel)
theorem m_1015 : Cond.selects RX2 yX2_addParity yX2_addParity ∈ Ug := Ug_at 1015 (by decide +kernel) (by decide +kernel)
theorem m_1016 : Cond.code yX2_addParity cX2_addParity 5 (some .int) ∈ Ug := Ug_at 1016 (by decide +kernel) (by decide +kernel)
theorem m_1023 : Cond.methodLink RL 200 yX2_addTuple ∈ Ug := Ug_at 1023 (by decide +kernel) (by decide +kernel)
theorem m_1024 : Cond.instanceMethod yX2_addTuple ∈ Ug := Ug_at 1024 (by decide +kernel) (by decide +kernel)
theorem m_1025 : Cond.selects RX2 yX2_addTuple yX2_addTuple ∈ Ug := Ug_at 1025 (by decide +kernel) (by decide +kernel)
theorem m_1026 : Cond.code yX2_addTuple cX2_addTuple 4 (some .boolean) ∈ Ug := Ug_at 1026 (by decide +kernel) (by decide +kernel)
theorem m_1035 : Cond.methodLink RL 203 yX2_removeTuple ∈ Ug := Ug_at 1035 (by decide +kernel) (by decide +kernel)
theorem m_1036 : Cond.instanceMethod yX2_removeTuple ∈ Ug := Ug_at 1036 (by decide +kernel) (by decide +kernel)
theorem m_1037 : Cond.selects RX2 yX2_removeTuple yX2_removeTuple ∈ Ug := Ug_at 1037 (by decide +kernel) (by decide +kernel)
theorem m_1038 : Cond.code yX2_removeTuple cX2_removeTuple 4 (some .boolean) ∈ Ug := Ug_at 1038 (by decide +kernel) (by decide +kernel)
theorem m_1039 : Cond.methodLink RL 206 yX2_contains ∈ Ug := Ug_at 1039 (by decide +kernel) (by decide +kernel)
theorem m_1040 : Cond.instanceMethod yX2_contains ∈ Ug := Ug_at 1040 (by decide +kernel) (by decide +kernel)
theorem m_1041 : Cond.selects RX2 yX2_contains yX2_contains ∈ Ug := Ug_at 1041 (by decide +kernel) (by decide +kernel)
theorem m_1042 : Cond.code yX2_contains cX2_contains 3 (some .boolean) ∈ Ug := Ug_at 1042 (by decide +kernel) (by decide +kernel)
theorem m_1043 : Cond.methodLink RL 209 yX2_tupleCount ∈ Ug := Ug_at 1043 (by decide +kernel) (by decide +kernel)
theorem m_1044 : Cond.instanceMethod yX2_tupleCount ∈ Ug := Ug_at 1044 (by decide +kernel) (by decide +kernel)
theorem m_1045 : Cond.selects RX2 yX2_tupleCount yX2_tupleCount ∈ Ug := Ug_at 1045 (by decide +kernel) (by decide +kernel)
theorem m_1046 : Cond.code yX2_tupleCount cX2_tupleCount 2 (some .int) ∈ Ug := Ug_at 1046 (by decide +kernel) (by decide +kernel)
theorem m_1047 : Cond.methodLink RL 212 yX2_arity ∈ Ug := Ug_at 1047 (by decide +kernel) (by decide +kernel)
theorem m_1048 : Cond.instanceMethod yX2_arity ∈ Ug := Ug_at 1048 (by decide +kernel) (by decide +kernel)
theorem m_1049 : Cond.selects RX2 yX2_arity yX2_arity ∈ Ug := Ug_at 1049 (by decide +kernel) (by decide +kernel)
theorem m_1050 : Cond.code yX2_arity cX2_arity 2 (some .int) ∈ Ug := Ug_at 1050 (by decide +kernel) (by decide +kernel)
theorem m_1051 : Cond.methodLink RL 216 yX2_relationCount ∈ Ug := Ug_at 1051 (by decide +kernel) (by decide +kernel)
theorem m_1052 : Cond.instanceMethod yX2_relationCount ∈ Ug := Ug_at 1052 (by decide +kernel) (by decide +kernel)
theorem m_1053 : Cond.selects RX2 yX2_relationCount yX2_relationCount ∈ Ug := Ug_at 1053 (by decide +kernel) (by decide +kernel)
theorem m_1054 : Cond.code yX2_relationCount cX2_relationCount 1 (some .int) ∈ Ug := Ug_at 1054 (by decide +kernel) (by decide +kernel)
theorem m_1055 : Cond.methodLink RL 219 yX2_areEqual ∈ Ug := Ug_at 1055 (by decide +kernel) (by decide +kernel)
theorem m_1056 : Cond.instanceMethod yX2_areEqual ∈ Ug := Ug_at 1056 (by decide +kernel) (by decide +kernel)
theorem m_1057 : Cond.selects RX2 yX2_areEqual yX2_areEqual ∈ Ug := Ug_at 1057 (by decide +kernel) (by decide +kernel)
theorem m_1058 : Cond.code yX2_areEqual cX2_areEqual 3 (some .boolean) ∈ Ug := Ug_at 1058 (by decide +kernel) (by decide +kernel)
theorem m_1059 : Cond.methodLink RL 223 yX2_clear ∈ Ug := Ug_at 1059 (by decide +kernel) (by decide +kernel)
theorem m_1060 : Cond.instanceMethod yX2_clear ∈ Ug := Ug_at 1060 (by decide +kernel) (by decide +kernel)
theorem m_1061 : Cond.selects RX2 yX2_clear yX2_clear ∈ Ug := Ug_at 1061 (by decide +kernel) (by decide +kernel)
theorem m_1062 : Cond.code yX2_clear cX2_clear 2 (some .int) ∈ Ug := Ug_at 1062 (by decide +kernel) (by decide +kernel)
theorem m_1063 : Cond.methodLink RL 226 yX2_addComplement ∈ Ug := Ug_at 1063 (by decide +kernel) (by decide +kernel)
theorem m_1064 : Cond.instanceMethod yX2_addComplement ∈ Ug := Ug_at 1064 (by decide +kernel) (by decide +kernel)
theorem m_1065 : Cond.selects RX2 yX2_addComplement yX2_addComplement ∈ Ug := Ug_at 1065 (by decide +kernel) (by decide +kernel)
theorem m_1066 : Cond.code yX2_addComplement cX2_addComplement 2 (some .int) ∈ Ug := Ug_at 1066 (by decide +kernel) (by decide +kernel)
theorem m_1067 : Cond.methodLink RL 229 yX2_addIntersection ∈ Ug := Ug_at 1067 (by decide +kernel) (by decide +kernel)
theorem m_1068 : Cond.instanceMethod yX2_addIntersection ∈ Ug := Ug_at 1068 (by decide +kernel) (by decide +kernel)
theorem m_1069 : Cond.selects RX2 yX2_addIntersection yX2_addIntersection ∈ Ug := Ug_at 1069 (by decide +kernel) (by decide +kernel)
theorem m_1070 : Cond.code yX2_addIntersection cX2_addIntersection 3 (some .int) ∈ Ug := Ug_at 1070 (by decide +kernel) (by decide +kernel)
theorem m_1071 : Cond.methodLink RL 232 yX2_addProjection ∈ Ug := Ug_at 1071 (by decide +kernel) (by decide +kernel)
theorem m_1072 : Cond.instanceMethod yX2_addProjection ∈ Ug := Ug_at 1072 (by decide +kernel) (by decide +kernel)
theorem m_1073 : Cond.selects RX2 yX2_addProjection yX2_addProjection ∈ Ug := Ug_at 1073 (by decide +kernel) (by decide +kernel)
theorem m_1074 : Cond.code yX2_addProjection cX2_addProjection 7 (some .int) ∈ Ug := Ug_at 1074 (by decide +kernel) (by decide +kernel)
theorem m_1075 : Cond.methodLink RL 236 yX2_addExchanged ∈ Ug := Ug_at 1075 (by decide +kernel) (by decide +kernel)
theorem m_1076 : Cond.instanceMethod yX2_addExchanged ∈ Ug := Ug_at 1076 (by decide +kernel) (by decide +kernel)
theorem m_1077 : Cond.selects RX2 yX2_addExchanged yX2_addExchanged ∈ Ug := Ug_at 1077 (by decide +kernel) (by decide +kernel)
theorem m_1078 : Cond.code yX2_addExchanged cX2_addExchanged 8 (some .int) ∈ Ug := Ug_at 1078 (by decide +kernel) (by decide +kernel)
theorem m_1079 : Cond.methodLink RL 240 yX2_apply ∈ Ug := Ug_at 1079 (by decide +kernel) (by decide +kernel)
theorem m_1080 : Cond.instanceMethod yX2_apply ∈ Ug := Ug_at 1080 (by decide +kernel) (by decide +kernel)
theorem m_1081 : Cond.selects RX2 yX2_apply yX2_apply ∈ Ug := Ug_at 1081 (by decide +kernel) (by decide +kernel)
theorem m_1082 : Cond.code yX2_apply cX2_apply 6 (some .int) ∈ Ug := Ug_at 1082 (by decide +kernel) (by decide +kernel)
theorem m_1089 : Cond.methodLink RL 243 yX2_preserves ∈ Ug := Ug_at 1089 (by decide +kernel) (by decide +kernel)
theorem m_1090 : Cond.instanceMethod yX2_preserves ∈ Ug := Ug_at 1090 (by decide +kernel) (by decide +kernel)
theorem m_1091 : Cond.selects RX2 yX2_preserves yX2_preserves ∈ Ug := Ug_at 1091 (by decide +kernel) (by decide +kernel)
theorem m_1092 : Cond.code yX2_preserves cX2_preserves 4 (some .boolean) ∈ Ug := Ug_at 1092 (by decide +kernel) (by decide +kernel)
theorem m_1104 : Cond.methodLink RL 246 yX2_isPolymorphism ∈ Ug := Ug_at 1104 (by decide +kernel) (by decide +kernel)
theorem m_1105 : Cond.instanceMethod yX2_isPolymorphism ∈ Ug := Ug_at 1105 (by decide +kernel) (by decide +kernel)
theorem m_1106 : Cond.selects RX2 yX2_isPolymorphism yX2_isPolymorphism ∈ Ug := Ug_at 1106 (by decide +kernel) (by decide +kernel)
theorem m_1107 : Cond.code yX2_isPolymorphism cX2_isPolymorphism 3 (some .boolean) ∈ Ug := Ug_at 1107 (by decide +kernel) (by decide +kernel)
theorem m_1112 : Cond.methodLink RL 249 yX2_polymorphismCount ∈ Ug := Ug_at 1112 (by decide +kernel) (by decide +kernel)
theorem m_1113 : Cond.instanceMethod yX2_polymorphismCount ∈ Ug := Ug_at 1113 (by decide +kernel) (by decide +kernel)
theorem m_1114 : Cond.selects RX2 yX2_polymorphismCount yX2_polymorphismCount ∈ Ug := Ug_at 1114 (by decide +kernel) (by decide +kernel)
theorem m_1115 : Cond.code yX2_polymorphismCount cX2_polymorphismCount 4 (some .int) ∈ Ug := Ug_at 1115 (by decide +kernel) (by decide +kernel)
theorem m_1116 : Cond.methodLink RL 252 yX2_polymorphism ∈ Ug := Ug_at 1116 (by decide +kernel) (by decide +kernel)
theorem m_1117 : Cond.instanceMethod yX2_polymorphism ∈ Ug := Ug_at 1117 (by decide +kernel) (by decide +kernel)
theorem m_1118 : Cond.selects RX2 yX2_polymorphism yX2_polymorphism ∈ Ug := Ug_at 1118 (by decide +kernel) (by decide +kernel)
theorem m_1119 : Cond.code yX2_polymorphism cX2_polymorphism 5 (some .int) ∈ Ug := Ug_at 1119 (by decide +kernel) (by decide +kernel)
theorem m_1120 : Cond.methodLink RL 255 yX2_isIdempotent ∈ Ug := Ug_at 1120 (by decide +kernel) (by decide +kernel)
theorem m_1121 : Cond.instanceMethod yX2_isIdempotent ∈ Ug := Ug_at 1121 (by decide +kernel) (by decide +kernel)
theorem m_1122 : Cond.selects RX2 yX2_isIdempotent yX2_isIdempotent ∈ Ug := Ug_at 1122 (by decide +kernel) (by decide +kernel)
theorem m_1123 : Cond.code yX2_isIdempotent cX2_isIdempotent 3 (some .boolean) ∈ Ug := Ug_at 1123 (by decide +kernel) (by decide +kernel)
theorem m_1124 : Cond.methodLink RL 258 yX2_isMonotone ∈ Ug := Ug_at 1124 (by decide +kernel) (by decide +kernel)
theorem m_1125 : Cond.instanceMethod yX2_isMonotone ∈ Ug := Ug_at 1125 (by decide +kernel) (by decide +kernel)
theorem m_1126 : Cond.selects RX2 yX2_isMonotone yX2_isMonotone ∈ Ug := Ug_at 1126 (by decide +kernel) (by decide +kernel)
theorem m_1127 : Cond.code yX2_isMonotone cX2_isMonotone 5 (some .boolean) ∈ Ug := Ug_at 1127 (by decide +kernel) (by decide +kernel)
theorem m_1128 : Cond.methodLink RL 261 yX2_projectedArgument ∈ Ug := Ug_at 1128 (by decide +kernel) (by decide +kernel)
theorem m_1129 : Cond.instanceMethod yX2_projectedArgument ∈ Ug := Ug_at 1129 (by decide +kernel) (by decide +kernel)
theorem m_1130 : Cond.selects RX2 yX2_projectedArgument yX2_projectedArgument ∈ Ug := Ug_at 1130 (by decide +kernel) (by decide +kernel)
theorem m_1131 : Cond.code yX2_projectedArgument cX2_projectedArgument 6 (some .int) ∈ Ug := Ug_at 1131 (by decide +kernel) (by decide +kernel)
theorem m_1132 : Cond.methodLink RL 264 yX2_close ∈ Ug := Ug_at 1132 (by decide +kernel) (by decide +kernel)
theorem m_1133 : Cond.instanceMethod yX2_close ∈ Ug := Ug_at 1133 (by decide +kernel) (by decide +kernel)
theorem m_1134 : Cond.selects RX2 yX2_close yX2_close ∈ Ug := Ug_at 1134 (by decide +kernel) (by decide +kernel)
theorem m_1135 : Cond.code yX2_close cX2_close 5 (some .int) ∈ Ug := Ug_at 1135 (by decide +kernel) (by decide +kernel)
theorem m_1139 : Cond.methodLink RL 267 yX2_dual ∈ Ug := Ug_at 1139 (by decide +kernel) (by decide +kernel)
theorem m_1140 : Cond.instanceMethod yX2_dual ∈ Ug := Ug_at 1140 (by decide +kernel) (by decide +kernel)
theorem m_1141 : Cond.selects RX2 yX2_dual yX2_dual ∈ Ug := Ug_at 1141 (by decide +kernel) (by decide +kernel)
theorem m_1142 : Cond.code yX2_dual cX2_dual 6 (some .int) ∈ Ug := Ug_at 1142 (by decide +kernel) (by decide +kernel)
theorem m_1143 : Cond.methodLink RL 270 yX2_dependsOn ∈ Ug := Ug_at 1143 (by decide +kernel) (by decide +kernel)
theorem m_1144 : Cond.instanceMethod yX2_dependsOn ∈ Ug := Ug_at 1144 (by decide +kernel) (by decide +kernel)
theorem m_1145 : Cond.selects RX2 yX2_dependsOn yX2_dependsOn ∈ Ug := Ug_at 1145 (by decide +kernel) (by decide +kernel)
theorem m_1146 : Cond.code yX2_dependsOn cX2_dependsOn 5 (some .boolean) ∈ Ug := Ug_at 1146 (by decide +kernel) (by decide +kernel)
theorem m_1147 : Cond.methodLink RL 273 yX2_compose ∈ Ug := Ug_at 1147 (by decide +kernel) (by decide +kernel)
theorem m_1148 : Cond.instanceMethod yX2_compose ∈ Ug := Ug_at 1148 (by decide +kernel) (by decide +kernel)
theorem m_1149 : Cond.selects RX2 yX2_compose yX2_compose ∈ Ug := Ug_at 1149 (by decide +kernel) (by decide +kernel)
theorem m_1150 : Cond.code yX2_compose cX2_compose 8 (some .int) ∈ Ug := Ug_at 1150 (by decide +kernel) (by decide +kernel)
theorem m_1151 : Cond.methodLink RL 276 yX2_relationHasKind ∈ Ug := Ug_at 1151 (by decide +kernel) (by decide +kernel)
theorem m_1152 : Cond.instanceMethod yX2_relationHasKind ∈ Ug := Ug_at 1152 (by decide +kernel) (by decide +kernel)
theorem m_1153 : Cond.selects RX2 yX2_relationHasKind yX2_relationHasKind ∈ Ug := Ug_at 1153 (by decide +kernel) (by decide +kernel)
theorem m_1154 : Cond.code yX2_relationHasKind cX2_relationHasKind 3 (some .boolean) ∈ Ug := Ug_at 1154 (by decide +kernel) (by decide +kernel)
theorem m_1159 : Cond.methodLink RL 279 yX2_hasKind ∈ Ug := Ug_at 1159 (by decide +kernel) (by decide +kernel)
theorem m_1160 : Cond.instanceMethod yX2_hasKind ∈ Ug := Ug_at 1160 (by decide +kernel) (by decide +kernel)
theorem m_1161 : Cond.selects RX2 yX2_hasKind yX2_hasKind ∈ Ug := Ug_at 1161 (by decide +kernel) (by decide +kernel)
theorem m_1162 : Cond.code yX2_hasKind cX2_hasKind 2 (some .boolean) ∈ Ug := Ug_at 1162 (by decide +kernel) (by decide +kernel)
theorem m_1167 : Cond.methodLink RL 283 yX2_lowestKind ∈ Ug := Ug_at 1167 (by decide +kernel) (by decide +kernel)
theorem m_1168 : Cond.instanceMethod yX2_lowestKind ∈ Ug := Ug_at 1168 (by decide +kernel) (by decide +kernel)
theorem m_1169 : Cond.selects RX2 yX2_lowestKind yX2_lowestKind ∈ Ug := Ug_at 1169 (by decide +kernel) (by decide +kernel)
theorem m_1170 : Cond.code yX2_lowestKind cX2_lowestKind 2 (some .int) ∈ Ug := Ug_at 1170 (by decide +kernel) (by decide +kernel)
theorem m_1171 : Cond.methodLink RL 286 yX2_setVariables ∈ Ug := Ug_at 1171 (by decide +kernel) (by decide +kernel)
theorem m_1172 : Cond.instanceMethod yX2_setVariables ∈ Ug := Ug_at 1172 (by decide +kernel) (by decide +kernel)
theorem m_1173 : Cond.selects RX2 yX2_setVariables yX2_setVariables ∈ Ug := Ug_at 1173 (by decide +kernel) (by decide +kernel)
theorem m_1174 : Cond.code yX2_setVariables cX2_setVariables 3 (some .int) ∈ Ug := Ug_at 1174 (by decide +kernel) (by decide +kernel)
theorem m_1175 : Cond.methodLink RL 289 yX2_addConstraint ∈ Ug := Ug_at 1175 (by decide +kernel) (by decide +kernel)
theorem m_1176 : Cond.instanceMethod yX2_addConstraint ∈ Ug := Ug_at 1176 (by decide +kernel) (by decide +kernel)
theorem m_1177 : Cond.selects RX2 yX2_addConstraint yX2_addConstraint ∈ Ug := Ug_at 1177 (by decide +kernel) (by decide +kernel)
theorem m_1178 : Cond.code yX2_addConstraint cX2_addConstraint 7 (some .int) ∈ Ug := Ug_at 1178 (by decide +kernel) (by decide +kernel)
theorem m_1187 : Cond.methodLink RL 292 yX2_removeLastConstraint ∈ Ug := Ug_at 1187 (by decide +kernel) (by decide +kernel)
theorem m_1188 : Cond.instanceMethod yX2_removeLastConstraint ∈ Ug := Ug_at 1188 (by decide +kernel) (by decide +kernel)
theorem m_1189 : Cond.selects RX2 yX2_removeLastConstraint yX2_removeLastConstraint ∈ Ug := Ug_at 1189 (by decide +kernel) (by decide +kernel)
theorem m_1190 : Cond.code yX2_removeLastConstraint cX2_removeLastConstraint 1 (some .int) ∈ Ug := Ug_at 1190 (by decide +kernel) (by decide +kernel)
theorem m_1191 : Cond.methodLink RL 296 yX2_solutionCount ∈ Ug := Ug_at 1191 (by decide +kernel) (by decide +kernel)
theorem m_1192 : Cond.instanceMethod yX2_solutionCount ∈ Ug := Ug_at 1192 (by decide +kernel) (by decide +kernel)
theorem m_1193 : Cond.selects RX2 yX2_solutionCount yX2_solutionCount ∈ Ug := Ug_at 1193 (by decide +kernel) (by decide +kernel)
theorem m_1194 : Cond.code yX2_solutionCount cX2_solutionCount 1 (some .int) ∈ Ug := Ug_at 1194 (by decide +kernel) (by decide +kernel)
theorem m_1207 : Cond.methodLink RL 299 yX2_solution ∈ Ug := Ug_at 1207 (by decide +kernel) (by decide +kernel)
theorem m_1208 : Cond.instanceMethod yX2_solution ∈ Ug := Ug_at 1208 (by decide +kernel) (by decide +kernel)
theorem m_1209 : Cond.selects RX2 yX2_solution yX2_solution ∈ Ug := Ug_at 1209 (by decide +kernel) (by decide +kernel)
theorem m_1210 : Cond.code yX2_solution cX2_solution 4 (some .int) ∈ Ug := Ug_at 1210 (by decide +kernel) (by decide +kernel)
theorem m_1211 : Cond.methodLink RL 302 yX2_isForced ∈ Ug := Ug_at 1211 (by decide +kernel) (by decide +kernel)
theorem m_1212 : Cond.instanceMethod yX2_isForced ∈ Ug := Ug_at 1212 (by decide +kernel) (by decide +kernel)
theorem m_1213 : Cond.selects RX2 yX2_isForced yX2_isForced ∈ Ug := Ug_at 1213 (by decide +kernel) (by decide +kernel)
theorem m_1214 : Cond.code yX2_isForced cX2_isForced 3 (some .boolean) ∈ Ug := Ug_at 1214 (by decide +kernel) (by decide +kernel)
theorem m_1219 : Cond.methodLink RL 305 yX2_leastSolution ∈ Ug := Ug_at 1219 (by decide +kernel) (by decide +kernel)
theorem m_1220 : Cond.instanceMethod yX2_leastSolution ∈ Ug := Ug_at 1220 (by decide +kernel) (by decide +kernel)
theorem m_1221 : Cond.selects RX2 yX2_leastSolution yX2_leastSolution ∈ Ug := Ug_at 1221 (by decide +kernel) (by decide +kernel)
theorem m_1222 : Cond.code yX2_leastSolution cX2_leastSolution 3 (some .int) ∈ Ug := Ug_at 1222 (by decide +kernel) (by decide +kernel)
theorem m_1223 : Cond.methodLink RL 308 yX2_greatestSolution ∈ Ug := Ug_at 1223 (by decide +kernel) (by decide +kernel)
theorem m_1224 : Cond.instanceMethod yX2_greatestSolution ∈ Ug := Ug_at 1224 (by decide +kernel) (by decide +kernel)
theorem m_1225 : Cond.selects RX2 yX2_greatestSolution yX2_greatestSolution ∈ Ug := Ug_at 1225 (by decide +kernel) (by decide +kernel)
theorem m_1226 : Cond.code yX2_greatestSolution cX2_greatestSolution 3 (some .int) ∈ Ug := Ug_at 1226 (by decide +kernel) (by decide +kernel)
theorem m_1227 : Cond.methodLink RL 312 yX2_implies ∈ Ug := Ug_at 1227 (by decide +kernel) (by decide +kernel)
theorem m_1228 : Cond.instanceMethod yX2_implies ∈ Ug := Ug_at 1228 (by decide +kernel) (by decide +kernel)
theorem m_1229 : Cond.selects RX2 yX2_implies yX2_implies ∈ Ug := Ug_at 1229 (by decide +kernel) (by decide +kernel)
theorem m_1230 : Cond.code yX2_implies cX2_implies 5 (some .boolean) ∈ Ug := Ug_at 1230 (by decide +kernel) (by decide +kernel)
theorem m_1231 : Cond.methodLink RL 315 yX2_dimension ∈ Ug := Ug_at 1231 (by decide +kernel) (by decide +kernel)
theorem m_1232 : Cond.instanceMethod yX2_dimension ∈ Ug := Ug_at 1232 (by decide +kernel) (by decide +kernel)
theorem m_1233 : Cond.selects RX2 yX2_dimension yX2_dimension ∈ Ug := Ug_at 1233 (by decide +kernel) (by decide +kernel)
theorem m_1234 : Cond.code yX2_dimension cX2_dimension 3 (some .int) ∈ Ug := Ug_at 1234 (by decide +kernel) (by decide +kernel)
theorem m_1235 : Cond.methodLink RL 318 yX2_define ∈ Ug := Ug_at 1235 (by decide +kernel) (by decide +kernel)
theorem m_1236 : Cond.instanceMethod yX2_define ∈ Ug := Ug_at 1236 (by decide +kernel) (by decide +kernel)
theorem m_1237 : Cond.selects RX2 yX2_define yX2_define ∈ Ug := Ug_at 1237 (by decide +kernel) (by decide +kernel)
theorem m_1238 : Cond.code yX2_define cX2_define 9 (some .int) ∈ Ug := Ug_at 1238 (by decide +kernel) (by decide +kernel)
theorem m_1239 : Cond.methodLink RL 321 yX2_firstViolated ∈ Ug := Ug_at 1239 (by decide +kernel) (by decide +kernel)
theorem m_1240 : Cond.instanceMethod yX2_firstViolated ∈ Ug := Ug_at 1240 (by decide +kernel) (by decide +kernel)
theorem m_1241 : Cond.selects RX2 yX2_firstViolated yX2_firstViolated ∈ Ug := Ug_at 1241 (by decide +kernel) (by decide +kernel)
theorem m_1242 : Cond.code yX2_firstViolated cX2_firstViolated 3 (some .int) ∈ Ug := Ug_at 1242 (by decide +kernel) (by decide +kernel)
theorem m_1243 : Cond.methodLink RL 324 yX2_isRedundant ∈ Ug := Ug_at 1243 (by decide +kernel) (by decide +kernel)
theorem m_1244 : Cond.instanceMethod yX2_isRedundant ∈ Ug := Ug_at 1244 (by decide +kernel) (by decide +kernel)
theorem m_1245 : Cond.selects RX2 yX2_isRedundant yX2_isRedundant ∈ Ug := Ug_at 1245 (by decide +kernel) (by decide +kernel)
theorem m_1246 : Cond.code yX2_isRedundant cX2_isRedundant 2 (some .boolean) ∈ Ug := Ug_at 1246 (by decide +kernel) (by decide +kernel)
theorem m_1251 : Cond.methodLink RL 328 yX2_removeRedundant ∈ Ug := Ug_at 1251 (by decide +kernel) (by decide +kernel)
theorem m_1252 : Cond.instanceMethod yX2_removeRedundant ∈ Ug := Ug_at 1252 (by decide +kernel) (by decide +kernel)
theorem m_1253 : Cond.selects RX2 yX2_removeRedundant yX2_removeRedundant ∈ Ug := Ug_at 1253 (by decide +kernel) (by decide +kernel)
theorem m_1254 : Cond.code yX2_removeRedundant cX2_removeRedundant 5 (some .int) ∈ Ug := Ug_at 1254 (by decide +kernel) (by decide +kernel)
theorem m_1255 : Cond.methodLink RL 332 yX2_append ∈ Ug := Ug_at 1255 (by decide +kernel) (by decide +kernel)
theorem m_1256 : Cond.instanceMethod yX2_append ∈ Ug := Ug_at 1256 (by decide +kernel) (by decide +kernel)
theorem m_1257 : Cond.selects RX2 yX2_append yX2_append ∈ Ug := Ug_at 1257 (by decide +kernel) (by decide +kernel)
theorem m_1258 : Cond.code yX2_append cX2_append 2 (some .int) ∈ Ug := Ug_at 1258 (by decide +kernel) (by decide +kernel)
theorem m_1259 : Cond.methodLink RL 335 yX2_parse ∈ Ug := Ug_at 1259 (by decide +kernel) (by decide +kernel)
theorem m_1260 : Cond.instanceMethod yX2_parse ∈ Ug := Ug_at 1260 (by decide +kernel) (by decide +kernel)
theorem m_1261 : Cond.selects RX2 yX2_parse yX2_parse ∈ Ug := Ug_at 1261 (by decide +kernel) (by decide +kernel)
theorem m_1262 : Cond.code yX2_parse cX2_parse 2 (some .int) ∈ Ug := Ug_at 1262 (by decide +kernel) (by decide +kernel)
theorem m_1267 : Cond.methodLink RL 338 yX2_errorPosition ∈ Ug := Ug_at 1267 (by decide +kernel) (by decide +kernel)
theorem m_1268 : Cond.instanceMethod yX2_errorPosition ∈ Ug := Ug_at 1268 (by decide +kernel) (by decide +kernel)
theorem m_1269 : Cond.selects RX2 yX2_errorPosition yX2_errorPosition ∈ Ug := Ug_at 1269 (by decide +kernel) (by decide +kernel)
theorem m_1270 : Cond.code yX2_errorPosition cX2_errorPosition 1 (some .int) ∈ Ug := Ug_at 1270 (by decide +kernel) (by decide +kernel)
theorem m_1271 : Cond.methodLink RL 341 yX2_write ∈ Ug := Ug_at 1271 (by decide +kernel) (by decide +kernel)
theorem m_1272 : Cond.instanceMethod yX2_write ∈ Ug := Ug_at 1272 (by decide +kernel) (by decide +kernel)
theorem m_1273 : Cond.selects RX2 yX2_write yX2_write ∈ Ug := Ug_at 1273 (by decide +kernel) (by decide +kernel)
theorem m_1274 : Cond.code yX2_write cX2_write 4 (some .int) ∈ Ug := Ug_at 1274 (by decide +kernel) (by decide +kernel)
theorem m_1279 : Cond.methodLink RL 344 yX2_outputAt ∈ Ug := Ug_at 1279 (by decide +kernel) (by decide +kernel)
theorem m_1280 : Cond.instanceMethod yX2_outputAt ∈ Ug := Ug_at 1280 (by decide +kernel) (by decide +kernel)
theorem m_1281 : Cond.selects RX2 yX2_outputAt yX2_outputAt ∈ Ug := Ug_at 1281 (by decide +kernel) (by decide +kernel)
theorem m_1282 : Cond.code yX2_outputAt cX2_outputAt 2 (some .char) ∈ Ug := Ug_at 1282 (by decide +kernel) (by decide +kernel)
theorem m_1283 : Cond.methodLink RL 347 yX2_storeFlags ∈ Ug := Ug_at 1283 (by decide +kernel) (by decide +kernel)
theorem m_1284 : Cond.instanceMethod yX2_storeFlags ∈ Ug := Ug_at 1284 (by decide +kernel) (by decide +kernel)
theorem m_1285 : Cond.selects RX2 yX2_storeFlags yX2_storeFlags ∈ Ug := Ug_at 1285 (by decide +kernel) (by decide +kernel)
theorem m_1286 : Cond.code yX2_storeFlags cX2_storeFlags 7 (some .int) ∈ Ug := Ug_at 1286 (by decide +kernel) (by decide +kernel)
theorem m_1290 : Cond.methodLink RL 351 yX2_setFlag ∈ Ug := Ug_at 1290 (by decide +kernel) (by decide +kernel)
theorem m_1291 : Cond.instanceMethod yX2_setFlag ∈ Ug := Ug_at 1291 (by decide +kernel) (by decide +kernel)
theorem m_1292 : Cond.selects RX2 yX2_setFlag yX2_setFlag ∈ Ug := Ug_at 1292 (by decide +kernel) (by decide +kernel)
theorem m_1293 : Cond.code yX2_setFlag cX2_setFlag 5 (some .boolean) ∈ Ug := Ug_at 1293 (by decide +kernel) (by decide +kernel)
theorem m_1294 : Cond.methodLink RL 354 yX2_takeFlags ∈ Ug := Ug_at 1294 (by decide +kernel) (by decide +kernel)
theorem m_1295 : Cond.instanceMethod yX2_takeFlags ∈ Ug := Ug_at 1295 (by decide +kernel) (by decide +kernel)
theorem m_1296 : Cond.selects RX2 yX2_takeFlags yX2_takeFlags ∈ Ug := Ug_at 1296 (by decide +kernel) (by decide +kernel)
theorem m_1297 : Cond.code yX2_takeFlags cX2_takeFlags 5 (some .int) ∈ Ug := Ug_at 1297 (by decide +kernel) (by decide +kernel)
theorem m_1298 : Cond.methodLink RL 358 yX2_saveSnapshot ∈ Ug := Ug_at 1298 (by decide +kernel) (by decide +kernel)
theorem m_1299 : Cond.instanceMethod yX2_saveSnapshot ∈ Ug := Ug_at 1299 (by decide +kernel) (by decide +kernel)
theorem m_1300 : Cond.selects RX2 yX2_saveSnapshot yX2_saveSnapshot ∈ Ug := Ug_at 1300 (by decide +kernel) (by decide +kernel)
theorem m_1301 : Cond.code yX2_saveSnapshot cX2_saveSnapshot 1 (some .int) ∈ Ug := Ug_at 1301 (by decide +kernel) (by decide +kernel)
theorem m_1314 : Cond.methodLink RL 361 yX2_restoreSnapshot ∈ Ug := Ug_at 1314 (by decide +kernel) (by decide +kernel)
theorem m_1315 : Cond.instanceMethod yX2_restoreSnapshot ∈ Ug := Ug_at 1315 (by decide +kernel) (by decide +kernel)
theorem m_1316 : Cond.selects RX2 yX2_restoreSnapshot yX2_restoreSnapshot ∈ Ug := Ug_at 1316 (by decide +kernel) (by decide +kernel)
theorem m_1317 : Cond.code yX2_restoreSnapshot cX2_restoreSnapshot 1 (some .int) ∈ Ug := Ug_at 1317 (by decide +kernel) (by decide +kernel)
theorem dL_law_1001 : decode cL_law 1001 = .ok (.if_icmp .eq 5, 3) := by decide +kernel
theorem dL_law_1004 : decode cL_law 1004 = .ok (.iconst 0, 1) := by decide +kernel
theorem dL_law_1005 : decode cL_law 1005 = .ok (.ireturn, 1) := by decide +kernel
theorem dL_law_1006 : decode cL_law 1006 = .ok (.iload 5, 2) := by decide +kernel
theorem dL_law_1008 : decode cL_law 1008 = .ok (.ifCond .ne 15, 3) := by decide +kernel
theorem dL_law_1011 : decode cL_law 1011 = .ok (.aload_n 3, 1) := by decide +kernel
theorem dL_law_1012 : decode cL_law 1012 = .ok (.iconst 0, 1) := by decide +kernel
theorem dL_law_1013 : decode cL_law 1013 = .ok (.laload, 1) := by decide +kernel
theorem dL_law_1014 : decode cL_law 1014 = .ok (.iload 6, 2) := by decide +kernel
theorem dL_law_1016 : decode cL_law 1016 = .ok (.i2l, 1) := by decide +kernel
theorem dL_law_1017 : decode cL_law 1017 = .ok (.lcmp, 1) := by decide +kernel
theorem dL_law_1018 : decode cL_law 1018 = .ok (.ifCond .eq 5, 3) := by decide +kernel
theorem dL_law_1021 : decode cL_law 1021 = .ok (.iconst 0, 1) := by decide +kernel
theorem dL_law_1022 : decode cL_law 1022 = .ok (.ireturn, 1) := by decide +kernel
theorem dL_law_1023 : decode cL_law 1023 = .ok (.goto 2637, 3) := by decide +kernel
theorem dL_law_1026 : decode cL_law 1026 = .ok (.aload_n 1, 1) := by decide +kernel
theorem dL_law_1027 : decode cL_law 1027 = .ok (.aload_n 0, 1) := by decide +kernel
theorem dL_law_1028 : decode cL_law 1028 = .ok (.iload 4, 2) := by decide +kernel
theorem dL_law_1030 : decode cL_law 1030 = .ok (.iconst 1, 1) := by decide +kernel
theorem dL_law_1031 : decode cL_law 1031 = .ok (.iadd, 1) := by decide +kernel
theorem dL_law_1032 : decode cL_law 1032 = .ok (.iaload, 1) := by decide +kernel
theorem dL_law_1033 : decode cL_law 1033 = .ok (.aload_n 0, 1) := by decide +kernel
theorem dL_law_1034 : decode cL_law 1034 = .ok (.iload 4, 2) := by decide +kernel
theorem dL_law_1036 : decode cL_law 1036 = .ok (.iconst 2, 1) := by decide +kernel
theorem dL_law_1037 : decode cL_law 1037 = .ok (.iadd, 1) := by decide +kernel
theorem dL_law_1038 : decode cL_law 1038 = .ok (.iaload, 1) := by decide +kernel
theorem dL_law_1039 : decode cL_law 1039 = .ok (.aload_n 3, 1) := by decide +kernel
theorem dL_law_1040 : decode cL_law 1040 = .ok (.invokestatic 230, 3) := by decide +kernel
theorem dL_law_1043 : decode cL_law 1043 = .ok (.istore 5, 2) := by decide +kernel
theorem dL_law_1045 : decode cL_law 1045 = .ok (.aload_n 2, 1) := by decide +kernel
theorem dL_law_1046 : decode cL_law 1046 = .ok (.aload_n 0, 1) := by decide +kernel
theorem dL_law_1047 : decode cL_law 1047 = .ok (.iload 4, 2) := by decide +kernel
theorem dL_law_1049 : decode cL_law 1049 = .ok (.iconst 1, 1) := by decide +kernel
theorem dL_law_1050 : decode cL_law 1050 = .ok (.iadd, 1) := by decide +kernel
theorem dL_law_1051 : decode cL_law 1051 = .ok (.iaload, 1) := by decide +kernel
theorem dL_law_1052 : decode cL_law 1052 = .ok (.aload_n 0, 1) := by decide +kernel
theorem dL_law_1053 : decode cL_law 1053 = .ok (.iload 4, 2) := by decide +kernel
theorem dL_law_1055 : decode cL_law 1055 = .ok (.iconst 2, 1) := by decide +kernel
theorem dL_law_1056 : decode cL_law 1056 = .ok (.iadd, 1) := by decide +kernel
theorem dL_law_1057 : decode cL_law 1057 = .ok (.iaload, 1) := by decide +kernel
theorem dL_law_1058 : decode cL_law 1058 = .ok (.invokevirtual 232, 3) := by decide +kernel
theorem dL_law_1061 : decode cL_law 1061 = .ok (.istore 6, 2) := by decide +kernel
theorem dL_law_1063 : decode cL_law 1063 = .ok (.aload_n 2, 1) := by decide +kernel
theorem dL_law_1064 : decode cL_law 1064 = .ok (.invokevirtual 188, 3) := by decide +kernel
theorem dL_law_1067 : decode cL_law 1067 = .ok (.iload 5, 2) := by decide +kernel
theorem dL_law_1069 : decode cL_law 1069 = .ok (.if_icmp .eq 5, 3) := by decide +kernel
theorem dL_law_1072 : decode cL_law 1072 = .ok (.iconst 0, 1) := by decide +kernel
theorem dL_law_1073 : decode cL_law 1073 = .ok (.ireturn, 1) := by decide +kernel
theorem dL_law_1074 : decode cL_law 1074 = .ok (.iload 5, 2) := by decide +kernel
theorem dL_law_1076 : decode cL_law 1076 = .ok (.ifCond .ne 15, 3) := by decide +kernel
theorem dL_law_1079 : decode cL_law 1079 = .ok (.aload_n 3, 1) := by decide +kernel
theorem dL_law_1080 : decode cL_law 1080 = .ok (.iconst 0, 1) := by decide +kernel
theorem dL_law_1081 : decode cL_law 1081 = .ok (.laload, 1) := by decide +kernel
theorem dL_law_1082 : decode cL_law 1082 = .ok (.iload 6, 2) := by decide +kernel
theorem dL_law_1084 : decode cL_law 1084 = .ok (.i2l, 1) := by decide +kernel
theorem dL_law_1085 : decode cL_law 1085 = .ok (.lcmp, 1) := by decide +kernel
theorem dL_law_1086 : decode cL_law 1086 = .ok (.ifCond .eq 5, 3) := by decide +kernel
theorem dL_law_1089 : decode cL_law 1089 = .ok (.iconst 0, 1) := by decide +kernel
theorem dL_law_1090 : decode cL_law 1090 = .ok (.ireturn, 1) := by decide +kernel
theorem dL_law_1091 : decode cL_law 1091 = .ok (.goto 2569, 3) := by decide +kernel
theorem dL_law_1094 : decode cL_law 1094 = .ok (.aload_n 1, 1) := by decide +kernel
theorem dL_law_1095 : decode cL_law 1095 = .ok (.aload_n 0, 1) := by decide +kernel
theorem dL_law_1096 : decode cL_law 1096 = .ok (.iload 4, 2) := by decide +kernel
theorem dL_law_1098 : decode cL_law 1098 = .ok (.iconst 1, 1) := by decide +kernel
theorem dL_law_1099 : decode cL_law 1099 = .ok (.iadd, 1) := by decide +kernel
theorem dL_law_1100 : decode cL_law 1100 = .ok (.iaload, 1) := by decide +kernel
theorem dL_law_1101 : decode cL_law 1101 = .ok (.aload_n 0, 1) := by decide +kernel
theorem dL_law_1102 : decode cL_law 1102 = .ok (.iload 4, 2) := by decide +kernel
theorem dL_law_1104 : decode cL_law 1104 = .ok (.iconst 2, 1) := by decide +kernel
theorem dL_law_1105 : decode cL_law 1105 = .ok (.iadd, 1) := by decide +kernel
theorem dL_law_1106 : decode cL_law 1106 = .ok (.iaload, 1) := by decide +kernel
theorem dL_law_1107 : decode cL_law 1107 = .ok (.aload_n 0, 1) := by decide +kernel
theorem dL_law_1108 : decode cL_law 1108 = .ok (.iload 4, 2) := by decide +kernel
theorem dL_law_1110 : decode cL_law 1110 = .ok (.iconst 3, 1) := by decide +kernel
theorem dL_law_1111 : decode cL_law 1111 = .ok (.iadd, 1) := by decide +kernel
theorem dL_law_1112 : decode cL_law 1112 = .ok (.iaload, 1) := by decide +kernel
theorem dL_law_1113 : decode cL_law 1113 = .ok (.aload_n 3, 1) := by decide +kernel
theorem dL_law_1114 : decode cL_law 1114 = .ok (.invokestatic 233, 3) := by decide +kernel
theorem dL_law_1117 : decode cL_law 1117 = .ok (.istore 5, 2) := by decide +kernel
theorem dL_law_1119 : decode cL_law 1119 = .ok (.aload_n 2, 1) := by decide +kernel
theorem dL_law_1120 : decode cL_law 1120 = .ok (.aload_n 0, 1) := by decide +kernel
theorem dL_law_1121 : decode cL_law 1121 = .ok (.iload 4, 2) := by decide +kernel
theorem dL_law_1123 : decode cL_law 1123 = .ok (.iconst 1, 1) := by decide +kernel
theorem dL_law_1124 : decode cL_law 1124 = .ok (.iadd, 1) := by decide +kernel
theorem dL_law_1125 : decode cL_law 1125 = .ok (.iaload, 1) := by decide +kernel
theorem dL_law_1126 : decode cL_law 1126 = .ok (.aload_n 0, 1) := by decide +kernel
theorem dL_law_1127 : decode cL_law 1127 = .ok (.iload 4, 2) := by decide +kernel
theorem dL_law_1129 : decode cL_law 1129 = .ok (.iconst 2, 1) := by decide +kernel
theorem dL_law_1130 : decode cL_law 1130 = .ok (.iadd, 1) := by decide +kernel
theorem dL_law_1131 : decode cL_law 1131 = .ok (.iaload, 1) := by decide +kernel
theorem dL_law_1132 : decode cL_law 1132 = .ok (.aload_n 0, 1) := by decide +kernel
theorem dL_law_1133 : decode cL_law 1133 = .ok (.iload 4, 2) := by decide +kernel
theorem dL_law_1135 : decode cL_law 1135 = .ok (.iconst 3, 1) := by decide +kernel
theorem dL_law_1136 : decode cL_law 1136 = .ok (.iadd, 1) := by decide +kernel
theorem dL_law_1137 : decode cL_law 1137 = .ok (.iaload, 1) := by decide +kernel
theorem dL_law_1138 : decode cL_law 1138 = .ok (.invokevirtual 236, 3) := by decide +kernel
theorem dL_law_1141 : decode cL_law 1141 = .ok (.istore 6, 2) := by decide +kernel
theorem dL_law_1143 : decode cL_law 1143 = .ok (.aload_n 2, 1) := by decide +kernel
theorem dL_law_1144 : decode cL_law 1144 = .ok (.invokevirtual 188, 3) := by decide +kernel
theorem dL_law_1147 : decode cL_law 1147 = .ok (.iload 5, 2) := by decide +kernel
theorem dL_law_1149 : decode cL_law 1149 = .ok (.if_icmp .eq 5, 3) := by decide +kernel
theorem dL_law_1152 : decode cL_law 1152 = .ok (.iconst 0, 1) := by decide +kernel
theorem dL_law_1153 : decode cL_law 1153 = .ok (.ireturn, 1) := by decide +kernel
theorem dL_law_1154 : decode cL_law 1154 = .ok (.iload 5, 2) := by decide +kernel
theorem dL_law_1156 : decode cL_law 1156 = .ok (.ifCond .ne 15, 3) := by decide +kernel
theorem dL_law_1159 : decode cL_law 1159 = .ok (.aload_n 3, 1) := by decide +kernel
theorem dL_law_1160 : decode cL_law 1160 = .ok (.iconst 0, 1) := by decide +kernel
theorem dL_law_1161 : decode cL_law 1161 = .ok (.laload, 1) := by decide +kernel
theorem dL_law_1162 : decode cL_law 1162 = .ok (.iload 6, 2) := by decide +kernel
theorem dL_law_1164 : decode cL_law 1164 = .ok (.i2l, 1) := by decide +kernel
theorem dL_law_1165 : decode cL_law 1165 = .ok (.lcmp, 1) := by decide +kernel
theorem dL_law_1166 : decode cL_law 1166 = .ok (.ifCond .eq 5, 3) := by decide +kernel
theorem dL_law_1169 : decode cL_law 1169 = .ok (.iconst 0, 1) := by decide +kernel
theorem dL_law_1170 : decode cL_law 1170 = .ok (.ireturn, 1) := by decide +kernel
theorem dL_law_1171 : decode cL_law 1171 = .ok (.goto 2489, 3) := by decide +kernel
theorem dL_law_1174 : decode cL_law 1174 = .ok (.aload_n 1, 1) := by decide +kernel
theorem dL_law_1175 : decode cL_law 1175 = .ok (.aload_n 0, 1) := by decide +kernel
theorem dL_law_1176 : decode cL_law 1176 = .ok (.iload 4, 2) := by decide +kernel
theorem dL_law_1178 : decode cL_law 1178 = .ok (.iconst 1, 1) := by decide +kernel
theorem dL_law_1179 : decode cL_law 1179 = .ok (.iadd, 1) := by decide +kernel
theorem dL_law_1180 : decode cL_law 1180 = .ok (.iaload, 1) := by decide +kernel
theorem dL_law_1181 : decode cL_law 1181 = .ok (.aload_n 0, 1) := by decide +kernel
theorem dL_law_1182 : decode cL_law 1182 = .ok (.iload 4, 2) := by decide +kernel
theorem dL_law_1184 : decode cL_law 1184 = .ok (.iconst 2, 1) := by decide +kernel
theorem dL_law_1185 : decode cL_law 1185 = .ok (.iadd, 1) := by decide +kernel
theorem dL_law_1186 : decode cL_law 1186 = .ok (.iaload, 1) := by decide +kernel
theorem dL_law_1187 : decode cL_law 1187 = .ok (.aload_n 0, 1) := by decide +kernel
theorem dL_law_1188 : decode cL_law 1188 = .ok (.iload 4, 2) := by decide +kernel
theorem dL_law_1190 : decode cL_law 1190 = .ok (.iconst 3, 1) := by decide +kernel
theorem dL_law_1191 : decode cL_law 1191 = .ok (.iadd, 1) := by decide +kernel
theorem dL_law_1192 : decode cL_law 1192 = .ok (.iaload, 1) := by decide +kernel
theorem dL_law_1193 : decode cL_law 1193 = .ok (.aload_n 0, 1) := by decide +kernel
theorem dL_law_1194 : decode cL_law 1194 = .ok (.iload 4, 2) := by decide +kernel
theorem dL_law_1196 : decode cL_law 1196 = .ok (.iconst 4, 1) := by decide +kernel
theorem dL_law_1197 : decode cL_law 1197 = .ok (.iadd, 1) := by decide +kernel
theorem dL_law_1198 : decode cL_law 1198 = .ok (.iaload, 1) := by decide +kernel
theorem dL_law_1199 : decode cL_law 1199 = .ok (.aload_n 0, 1) := by decide +kernel
theorem dL_law_1200 : decode cL_law 1200 = .ok (.iload 4, 2) := by decide +kernel
theorem dL_law_1202 : decode cL_law 1202 = .ok (.iconst 5, 1) := by decide +kernel
theorem dL_law_1203 : decode cL_law 1203 = .ok (.iadd, 1) := by decide +kernel
theorem dL_law_1204 : decode cL_law 1204 = .ok (.iaload, 1) := by decide +kernel
theorem dL_law_1205 : decode cL_law 1205 = .ok (.aload_n 3, 1) := by decide +kernel
theorem dL_law_1206 : decode cL_law 1206 = .ok (.invokestatic 237, 3) := by decide +kernel
theorem dL_law_1209 : decode cL_law 1209 = .ok (.istore 5, 2) := by decide +kernel
theorem dL_law_1211 : decode cL_law 1211 = .ok (.aload_n 2, 1) := by decide +kernel
theorem dL_law_1212 : decode cL_law 1212 = .ok (.aload_n 0, 1) := by decide +kernel
theorem dL_law_1213 : decode cL_law 1213 = .ok (.iload 4, 2) := by decide +kernel
theorem dL_law_1215 : decode cL_law 1215 = .ok (.iconst 1, 1) := by decide +kernel
theorem dL_law_1216 : decode cL_law 1216 = .ok (.iadd, 1) := by decide +kernel
theorem dL_law_1217 : decode cL_law 1217 = .ok (.iaload, 1) := by decide +kernel
theorem dL_law_1218 : decode cL_law 1218 = .ok (.aload_n 0, 1) := by decide +kernel
theorem dL_law_1219 : decode cL_law 1219 = .ok (.iload 4, 2) := by decide +kernel
theorem dL_law_1221 : decode cL_law 1221 = .ok (.iconst 2, 1) := by decide +kernel
theorem dL_law_1222 : decode cL_law 1222 = .ok (.iadd, 1) := by decide +kernel
theorem dL_law_1223 : decode cL_law 1223 = .ok (.iaload, 1) := by decide +kernel
theorem dL_law_1224 : decode cL_law 1224 = .ok (.aload_n 0, 1) := by decide +kernel
theorem dL_law_1225 : decode cL_law 1225 = .ok (.iload 4, 2) := by decide +kernel
theorem dL_law_1227 : decode cL_law 1227 = .ok (.iconst 3, 1) := by decide +kernel
theorem dL_law_1228 : decode cL_law 1228 = .ok (.iadd, 1) := by decide +kernel
theorem dL_law_1229 : decode cL_law 1229 = .ok (.iaload, 1) := by decide +kernel
theorem dL_law_1230 : decode cL_law 1230 = .ok (.aload_n 0, 1) := by decide +kernel
theorem dL_law_1231 : decode cL_law 1231 = .ok (.iload 4, 2) := by decide +kernel
theorem dL_law_1233 : decode cL_law 1233 = .ok (.iconst 4, 1) := by decide +kernel
theorem dL_law_1234 : decode cL_law 1234 = .ok (.iadd, 1) := by decide +kernel
theorem dL_law_1235 : decode cL_law 1235 = .ok (.iaload, 1) := by decide +kernel
theorem dL_law_1236 : decode cL_law 1236 = .ok (.aload_n 0, 1) := by decide +kernel
theorem dL_law_1237 : decode cL_law 1237 = .ok (.iload 4, 2) := by decide +kernel
theorem dL_law_1239 : decode cL_law 1239 = .ok (.iconst 5, 1) := by decide +kernel
theorem dL_law_1240 : decode cL_law 1240 = .ok (.iadd, 1) := by decide +kernel
theorem dL_law_1241 : decode cL_law 1241 = .ok (.iaload, 1) := by decide +kernel
theorem dL_law_1242 : decode cL_law 1242 = .ok (.invokevirtual 240, 3) := by decide +kernel
theorem dL_law_1245 : decode cL_law 1245 = .ok (.istore 6, 2) := by decide +kernel
theorem dL_law_1247 : decode cL_law 1247 = .ok (.aload_n 2, 1) := by decide +kernel
theorem dL_law_1248 : decode cL_law 1248 = .ok (.invokevirtual 188, 3) := by decide +kernel
theorem dL_law_1251 : decode cL_law 1251 = .ok (.iload 5, 2) := by decide +kernel
theorem dL_law_1253 : decode cL_law 1253 = .ok (.if_icmp .eq 5, 3) := by decide +kernel
theorem dL_law_1256 : decode cL_law 1256 = .ok (.iconst 0, 1) := by decide +kernel
theorem dL_law_1257 : decode cL_law 1257 = .ok (.ireturn, 1) := by decide +kernel
theorem dL_law_1258 : decode cL_law 1258 = .ok (.iload 5, 2) := by decide +kernel
theorem dL_law_1260 : decode cL_law 1260 = .ok (.ifCond .ne 15, 3) := by decide +kernel
theorem dL_law_1263 : decode cL_law 1263 = .ok (.aload_n 3, 1) := by decide +kernel
theorem dL_law_1264 : decode cL_law 1264 = .ok (.iconst 0, 1) := by decide +kernel
theorem dL_law_1265 : decode cL_law 1265 = .ok (.laload, 1) := by decide +kernel
theorem dL_law_1266 : decode cL_law 1266 = .ok (.iload 6, 2) := by decide +kernel
theorem dL_law_1268 : decode cL_law 1268 = .ok (.i2l, 1) := by decide +kernel
theorem dL_law_1269 : decode cL_law 1269 = .ok (.lcmp, 1) := by decide +kernel
theorem dL_law_1270 : decode cL_law 1270 = .ok (.ifCond .eq 5, 3) := by decide +kernel
theorem dL_law_1273 : decode cL_law 1273 = .ok (.iconst 0, 1) := by decide +kernel
theorem dL_law_1274 : decode cL_law 1274 = .ok (.ireturn, 1) := by decide +kernel
theorem dL_law_1275 : decode cL_law 1275 = .ok (.goto 2385, 3) := by decide +kernel
theorem dL_law_1278 : decode cL_law 1278 = .ok (.aload_n 1, 1) := by decide +kernel
theorem dL_law_1279 : decode cL_law 1279 = .ok (.aload_n 0, 1) := by decide +kernel
theorem dL_law_1280 : decode cL_law 1280 = .ok (.iload 4, 2) := by decide +kernel
theorem dL_law_1282 : decode cL_law 1282 = .ok (.iconst 1, 1) := by decide +kernel
theorem dL_law_1283 : decode cL_law 1283 = .ok (.iadd, 1) := by decide +kernel
theorem dL_law_1284 : decode cL_law 1284 = .ok (.iaload, 1) := by decide +kernel
theorem dL_law_1285 : decode cL_law 1285 = .ok (.aload_n 0, 1) := by decide +kernel
theorem dL_law_1286 : decode cL_law 1286 = .ok (.iload 4, 2) := by decide +kernel
theorem dL_law_1288 : decode cL_law 1288 = .ok (.iconst 2, 1) := by decide +kernel
theorem dL_law_1289 : decode cL_law 1289 = .ok (.iadd, 1) := by decide +kernel
theorem dL_law_1290 : decode cL_law 1290 = .ok (.iaload, 1) := by decide +kernel
theorem dL_law_1291 : decode cL_law 1291 = .ok (.aload_n 0, 1) := by decide +kernel
theorem dL_law_1292 : decode cL_law 1292 = .ok (.iload 4, 2) := by decide +kernel
theorem dL_law_1294 : decode cL_law 1294 = .ok (.iconst 3, 1) := by decide +kernel
theorem dL_law_1295 : decode cL_law 1295 = .ok (.iadd, 1) := by decide +kernel
theorem dL_law_1296 : decode cL_law 1296 = .ok (.iaload, 1) := by decide +kernel
theorem dL_law_1297 : decode cL_law 1297 = .ok (.aload_n 3, 1) := by decide +kernel
theorem dL_law_1298 : decode cL_law 1298 = .ok (.invokestatic 241, 3) := by decide +kernel
theorem dL_law_1301 : decode cL_law 1301 = .ok (.istore 5, 2) := by decide +kernel
theorem dL_law_1303 : decode cL_law 1303 = .ok (.aload_n 2, 1) := by decide +kernel
theorem dL_law_1304 : decode cL_law 1304 = .ok (.aload_n 0, 1) := by decide +kernel
theorem dL_law_1305 : decode cL_law 1305 = .ok (.iload 4, 2) := by decide +kernel
theorem dL_law_1307 : decode cL_law 1307 = .ok (.iconst 1, 1) := by decide +kernel
theorem dL_law_1308 : decode cL_law 1308 = .ok (.iadd, 1) := by decide +kernel
theorem dL_law_1309 : decode cL_law 1309 = .ok (.iaload, 1) := by decide +kernel
theorem dL_law_1310 : decode cL_law 1310 = .ok (.aload_n 0, 1) := by decide +kernel
theorem dL_law_1311 : decode cL_law 1311 = .ok (.iload 4, 2) := by decide +kernel
theorem dL_law_1313 : decode cL_law 1313 = .ok (.iconst 2, 1) := by decide +kernel
theorem dL_law_1314 : decode cL_law 1314 = .ok (.iadd, 1) := by decide +kernel
theorem dL_law_1315 : decode cL_law 1315 = .ok (.iaload, 1) := by decide +kernel
theorem dL_law_1316 : decode cL_law 1316 = .ok (.aload_n 0, 1) := by decide +kernel
theorem dL_law_1317 : decode cL_law 1317 = .ok (.iload 4, 2) := by decide +kernel
theorem dL_law_1319 : decode cL_law 1319 = .ok (.iconst 3, 1) := by decide +kernel
theorem dL_law_1320 : decode cL_law 1320 = .ok (.iadd, 1) := by decide +kernel
theorem dL_law_1321 : decode cL_law 1321 = .ok (.iaload, 1) := by decide +kernel
theorem dL_law_1322 : decode cL_law 1322 = .ok (.invokevirtual 243, 3) := by decide +kernel
theorem dL_law_1325 : decode cL_law 1325 = .ok (.istore 6, 2) := by decide +kernel
theorem dL_law_1327 : decode cL_law 1327 = .ok (.aload_n 2, 1) := by decide +kernel
theorem dL_law_1328 : decode cL_law 1328 = .ok (.invokevirtual 188, 3) := by decide +kernel
theorem dL_law_1331 : decode cL_law 1331 = .ok (.iload 5, 2) := by decide +kernel
theorem dL_law_1333 : decode cL_law 1333 = .ok (.if_icmp .eq 5, 3) := by decide +kernel
theorem dL_law_1336 : decode cL_law 1336 = .ok (.iconst 0, 1) := by decide +kernel
theorem dL_law_1337 : decode cL_law 1337 = .ok (.ireturn, 1) := by decide +kernel
theorem dL_law_1338 : decode cL_law 1338 = .ok (.iload 5, 2) := by decide +kernel
theorem dL_law_1340 : decode cL_law 1340 = .ok (.ifCond .ne 22, 3) := by decide +kernel
theorem dL_law_1343 : decode cL_law 1343 = .ok (.aload_n 3, 1) := by decide +kernel
theorem dL_law_1344 : decode cL_law 1344 = .ok (.iconst 0, 1) := by decide +kernel
theorem dL_law_1345 : decode cL_law 1345 = .ok (.laload, 1) := by decide +kernel
theorem dL_law_1346 : decode cL_law 1346 = .ok (.iload 6, 2) := by decide +kernel
theorem dL_law_1348 : decode cL_law 1348 = .ok (.ifCond .eq 7, 3) := by decide +kernel
theorem dL_law_1351 : decode cL_law 1351 = .ok (.lconst 1, 1) := by decide +kernel
theorem dL_law_1352 : decode cL_law 1352 = .ok (.goto 4, 3) := by decide +kernel
theorem dL_law_1355 : decode cL_law 1355 = .ok (.lconst 0, 1) := by decide +kernel
theorem dL_law_1356 : decode cL_law 1356 = .ok (.lcmp, 1) := by decide +kernel
theorem dL_law_1357 : decode cL_law 1357 = .ok (.ifCond .eq 5, 3) := by decide +kernel
theorem dL_law_1360 : decode cL_law 1360 = .ok (.iconst 0, 1) := by decide +kernel
theorem dL_law_1361 : decode cL_law 1361 = .ok (.ireturn, 1) := by decide +kernel
theorem dL_law_1362 : decode cL_law 1362 = .ok (.goto 2298, 3) := by decide +kernel
theorem dL_law_1365 : decode cL_law 1365 = .ok (.aload_n 1, 1) := by decide +kernel
theorem dL_law_1366 : decode cL_law 1366 = .ok (.aload_n 0, 1) := by decide +kernel
theorem dL_law_1367 : decode cL_law 1367 = .ok (.iload 4, 2) := by decide +kernel
theorem dL_law_1369 : decode cL_law 1369 = .ok (.iconst 1, 1) := by decide +kernel
theorem dL_law_1370 : decode cL_law 1370 = .ok (.iadd, 1) := by decide +kernel
theorem dL_law_1371 : decode cL_law 1371 = .ok (.iaload, 1) := by decide +kernel
theorem dL_law_1372 : decode cL_law 1372 = .ok (.aload_n 0, 1) := by decide +kernel
theorem dL_law_1373 : decode cL_law 1373 = .ok (.iload 4, 2) := by decide +kernel
theorem dL_law_1375 : decode cL_law 1375 = .ok (.iconst 2, 1) := by decide +kernel
theorem dL_law_1376 : decode cL_law 1376 = .ok (.iadd, 1) := by decide +kernel
theorem dL_law_1377 : decode cL_law 1377 = .ok (.iaload, 1) := by decide +kernel
theorem dL_law_1378 : decode cL_law 1378 = .ok (.aload_n 3, 1) := by decide +kernel
theorem dL_law_1379 : decode cL_law 1379 = .ok (.invokestatic 244, 3) := by decide +kernel
theorem dL_law_1382 : decode cL_law 1382 = .ok (.istore 5, 2) := by decide +kernel
theorem dL_law_1384 : decode cL_law 1384 = .ok (.aload_n 2, 1) := by decide +kernel
theorem dL_law_1385 : decode cL_law 1385 = .ok (.aload_n 0, 1) := by decide +kernel
theorem dL_law_1386 : decode cL_law 1386 = .ok (.iload 4, 2) := by decide +kernel
theorem dL_law_1388 : decode cL_law 1388 = .ok (.iconst 1, 1) := by decide +kernel
theorem dL_law_1389 : decode cL_law 1389 = .ok (.iadd, 1) := by decide +kernel
theorem dL_law_1390 : decode cL_law 1390 = .ok (.iaload, 1) := by decide +kernel
theorem dL_law_1391 : decode cL_law 1391 = .ok (.aload_n 0, 1) := by decide +kernel
theorem dL_law_1392 : decode cL_law 1392 = .ok (.iload 4, 2) := by decide +kernel
theorem dL_law_1394 : decode cL_law 1394 = .ok (.iconst 2, 1) := by decide +kernel
theorem dL_law_1395 : decode cL_law 1395 = .ok (.iadd, 1) := by decide +kernel
theorem dL_law_1396 : decode cL_law 1396 = .ok (.iaload, 1) := by decide +kernel
theorem dL_law_1397 : decode cL_law 1397 = .ok (.invokevirtual 246, 3) := by decide +kernel
theorem dL_law_1400 : decode cL_law 1400 = .ok (.istore 6, 2) := by decide +kernel
theorem dL_law_1402 : decode cL_law 1402 = .ok (.aload_n 2, 1) := by decide +kernel
theorem dL_law_1403 : decode cL_law 1403 = .ok (.invokevirtual 188, 3) := by decide +kernel
theorem dL_law_1406 : decode cL_law 1406 = .ok (.iload 5, 2) := by decide +kernel
theorem dL_law_1408 : decode cL_law 1408 = .ok (.if_icmp .eq 5, 3) := by decide +kernel
theorem dL_law_1411 : decode cL_law 1411 = .ok (.iconst 0, 1) := by decide +kernel
theorem dL_law_1412 : decode cL_law 1412 = .ok (.ireturn, 1) := by decide +kernel
theorem dL_law_1413 : decode cL_law 1413 = .ok (.iload 5, 2) := by decide +kernel
theorem dL_law_1415 : decode cL_law 1415 = .ok (.ifCond .ne 22, 3) := by decide +kernel
theorem dL_law_1418 : decode cL_law 1418 = .ok (.aload_n 3, 1) := by decide +kernel
theorem dL_law_1419 : decode cL_law 1419 = .ok (.iconst 0, 1) := by decide +kernel
theorem dL_law_1420 : decode cL_law 1420 = .ok (.laload, 1) := by decide +kernel
theorem dL_law_1421 : decode cL_law 1421 = .ok (.iload 6, 2) := by decide +kernel
theorem dL_law_1423 : decode cL_law 1423 = .ok (.ifCond .eq 7, 3) := by decide +kernel
theorem dL_law_1426 : decode cL_law 1426 = .ok (.lconst 1, 1) := by decide +kernel
theorem dL_law_1427 : decode cL_law 1427 = .ok (.goto 4, 3) := by decide +kernel
theorem dL_law_1430 : decode cL_law 1430 = .ok (.lconst 0, 1) := by decide +kernel
theorem dL_law_1431 : decode cL_law 1431 = .ok (.lcmp, 1) := by decide +kernel
theorem dL_law_1432 : decode cL_law 1432 = .ok (.ifCond .eq 5, 3) := by decide +kernel
theorem dL_law_1435 : decode cL_law 1435 = .ok (.iconst 0, 1) := by decide +kernel
theorem dL_law_1436 : decode cL_law 1436 = .ok (.ireturn, 1) := by decide +kernel
theorem dL_law_1437 : decode cL_law 1437 = .ok (.goto 2223, 3) := by decide +kernel
theorem dL_law_1440 : decode cL_law 1440 = .ok (.aload_n 1, 1) := by decide +kernel
theorem dL_law_1441 : decode cL_law 1441 = .ok (.aload_n 0, 1) := by decide +kernel
theorem dL_law_1442 : decode cL_law 1442 = .ok (.iload 4, 2) := by decide +kernel
theorem dL_law_1444 : decode cL_law 1444 = .ok (.iconst 1, 1) := by decide +kernel
theorem dL_law_1445 : decode cL_law 1445 = .ok (.iadd, 1) := by decide +kernel
theorem dL_law_1446 : decode cL_law 1446 = .ok (.iaload, 1) := by decide +kernel
theorem dL_law_1447 : decode cL_law 1447 = .ok (.aload_n 3, 1) := by decide +kernel
theorem dL_law_1448 : decode cL_law 1448 = .ok (.invokestatic 247, 3) := by decide +kernel
theorem dL_law_1451 : decode cL_law 1451 = .ok (.istore 5, 2) := by decide +kernel
theorem dL_law_1453 : decode cL_law 1453 = .ok (.aload_n 2, 1) := by decide +kernel
theorem dL_law_1454 : decode cL_law 1454 = .ok (.aload_n 0, 1) := by decide +kernel
theorem dL_law_1455 : decode cL_law 1455 = .ok (.iload 4, 2) := by decide +kernel
theorem dL_law_1457 : decode cL_law 1457 = .ok (.iconst 1, 1) := by decide +kernel
theorem dL_law_1458 : decode cL_law 1458 = .ok (.iadd, 1) := by decide +kernel
theorem dL_law_1459 : decode cL_law 1459 = .ok (.iaload, 1) := by decide +kernel
theorem dL_law_1460 : decode cL_law 1460 = .ok (.invokevirtual 249, 3) := by decide +kernel
theorem dL_law_1463 : decode cL_law 1463 = .ok (.istore 6, 2) := by decide +kernel
theorem dL_law_1465 : decode cL_law 1465 = .ok (.aload_n 2, 1) := by decide +kernel
theorem dL_law_1466 : decode cL_law 1466 = .ok (.invokevirtual 188, 3) := by decide +kernel
theorem dL_law_1469 : decode cL_law 1469 = .ok (.iload 5, 2) := by decide +kernel
theorem dL_law_1471 : decode cL_law 1471 = .ok (.if_icmp .eq 5, 3) := by decide +kernel
theorem dL_law_1474 : decode cL_law 1474 = .ok (.iconst 0, 1) := by decide +kernel
theorem dL_law_1475 : decode cL_law 1475 = .ok (.ireturn, 1) := by decide +kernel
theorem dL_law_1476 : decode cL_law 1476 = .ok (.iload 5, 2) := by decide +kernel
theorem dL_law_1478 : decode cL_law 1478 = .ok (.ifCond .ne 15, 3) := by decide +kernel
theorem dL_law_1481 : decode cL_law 1481 = .ok (.aload_n 3, 1) := by decide +kernel
theorem dL_law_1482 : decode cL_law 1482 = .ok (.iconst 0, 1) := by decide +kernel
theorem dL_law_1483 : decode cL_law 1483 = .ok (.laload, 1) := by decide +kernel
theorem dL_law_1484 : decode cL_law 1484 = .ok (.iload 6, 2) := by decide +kernel
theorem dL_law_1486 : decode cL_law 1486 = .ok (.i2l, 1) := by decide +kernel
theorem dL_law_1487 : decode cL_law 1487 = .ok (.lcmp, 1) := by decide +kernel
theorem dL_law_1488 : decode cL_law 1488 = .ok (.ifCond .eq 5, 3) := by decide +kernel
theorem dL_law_1491 : decode cL_law 1491 = .ok (.iconst 0, 1) := by decide +kernel
theorem dL_law_1492 : decode cL_law 1492 = .ok (.ireturn, 1) := by decide +kernel
theorem dL_law_1493 : decode cL_law 1493 = .ok (.goto 2167, 3) := by decide +kernel
theorem dL_law_1496 : decode cL_law 1496 = .ok (.aload_n 1, 1) := by decide +kernel
theorem dL_law_1497 : decode cL_law 1497 = .ok (.aload_n 0, 1) := by decide +kernel
theorem dL_law_1498 : decode cL_law 1498 = .ok (.iload 4, 2) := by decide +kernel
theorem dL_law_1500 : decode cL_law 1500 = .ok (.iconst 1, 1) := by decide +kernel
theorem dL_law_1501 : decode cL_law 1501 = .ok (.iadd, 1) := by decide +kernel
theorem dL_law_1502 : decode cL_law 1502 = .ok (.iaload, 1) := by decide +kernel
theorem dL_law_1503 : decode cL_law 1503 = .ok (.aload_n 0, 1) := by decide +kernel
theorem dL_law_1504 : decode cL_law 1504 = .ok (.iload 4, 2) := by decide +kernel
theorem dL_law_1506 : decode cL_law 1506 = .ok (.iconst 2, 1) := by decide +kernel
theorem dL_law_1507 : decode cL_law 1507 = .ok (.iadd, 1) := by decide +kernel
theorem dL_law_1508 : decode cL_law 1508 = .ok (.iaload, 1) := by decide +kernel
theorem dL_law_1509 : decode cL_law 1509 = .ok (.aload_n 3, 1) := by decide +kernel
theorem dL_law_1510 : decode cL_law 1510 = .ok (.invokestatic 250, 3) := by decide +kernel
theorem dL_law_1513 : decode cL_law 1513 = .ok (.istore 5, 2) := by decide +kernel
theorem dL_law_1515 : decode cL_law 1515 = .ok (.aload_n 2, 1) := by decide +kernel
theorem dL_law_1516 : decode cL_law 1516 = .ok (.aload_n 0, 1) := by decide +kernel
theorem dL_law_1517 : decode cL_law 1517 = .ok (.iload 4, 2) := by decide +kernel
theorem dL_law_1519 : decode cL_law 1519 = .ok (.iconst 1, 1) := by decide +kernel
theorem dL_law_1520 : decode cL_law 1520 = .ok (.iadd, 1) := by decide +kernel
theorem dL_law_1521 : decode cL_law 1521 = .ok (.iaload, 1) := by decide +kernel
theorem dL_law_1522 : decode cL_law 1522 = .ok (.aload_n 0, 1) := by decide +kernel
theorem dL_law_1523 : decode cL_law 1523 = .ok (.iload 4, 2) := by decide +kernel
theorem dL_law_1525 : decode cL_law 1525 = .ok (.iconst 2, 1) := by decide +kernel
theorem dL_law_1526 : decode cL_law 1526 = .ok (.iadd, 1) := by decide +kernel
theorem dL_law_1527 : decode cL_law 1527 = .ok (.iaload, 1) := by decide +kernel
theorem dL_law_1528 : decode cL_law 1528 = .ok (.invokevirtual 252, 3) := by decide +kernel
theorem dL_law_1531 : decode cL_law 1531 = .ok (.istore 6, 2) := by decide +kernel
theorem dL_law_1533 : decode cL_law 1533 = .ok (.aload_n 2, 1) := by decide +kernel
theorem dL_law_1534 : decode cL_law 1534 = .ok (.invokevirtual 188, 3) := by decide +kernel
theorem dL_law_1537 : decode cL_law 1537 = .ok (.iload 5, 2) := by decide +kernel
theorem dL_law_1539 : decode cL_law 1539 = .ok (.if_icmp .eq 5, 3) := by decide +kernel
theorem dL_law_1542 : decode cL_law 1542 = .ok (.iconst 0, 1) := by decide +kernel
theorem dL_law_1543 : decode cL_law 1543 = .ok (.ireturn, 1) := by decide +kernel
theorem dL_law_1544 : decode cL_law 1544 = .ok (.iload 5, 2) := by decide +kernel
theorem dL_law_1546 : decode cL_law 1546 = .ok (.ifCond .ne 15, 3) := by decide +kernel
theorem dL_law_1549 : decode cL_law 1549 = .ok (.aload_n 3, 1) := by decide +kernel
theorem dL_law_1550 : decode cL_law 1550 = .ok (.iconst 0, 1) := by decide +kernel
theorem dL_law_1551 : decode cL_law 1551 = .ok (.laload, 1) := by decide +kernel
theorem dL_law_1552 : decode cL_law 1552 = .ok (.iload 6, 2) := by decide +kernel
theorem dL_law_1554 : decode cL_law 1554 = .ok (.i2l, 1) := by decide +kernel
theorem dL_law_1555 : decode cL_law 1555 = .ok (.lcmp, 1) := by decide +kernel
theorem dL_law_1556 : decode cL_law 1556 = .ok (.ifCond .eq 5, 3) := by decide +kernel
theorem dL_law_1559 : decode cL_law 1559 = .ok (.iconst 0, 1) := by decide +kernel
theorem dL_law_1560 : decode cL_law 1560 = .ok (.ireturn, 1) := by decide +kernel
theorem dL_law_1561 : decode cL_law 1561 = .ok (.goto 2099, 3) := by decide +kernel
theorem dL_law_1564 : decode cL_law 1564 = .ok (.aload_n 1, 1) := by decide +kernel
theorem dL_law_1565 : decode cL_law 1565 = .ok (.aload_n 0, 1) := by decide +kernel
theorem dL_law_1566 : decode cL_law 1566 = .ok (.iload 4, 2) := by decide +kernel
theorem dL_law_1568 : decode cL_law 1568 = .ok (.iconst 1, 1) := by decide +kernel
theorem dL_law_1569 : decode cL_law 1569 = .ok (.iadd, 1) := by decide +kernel
theorem dL_law_1570 : decode cL_law 1570 = .ok (.iaload, 1) := by decide +kernel
theorem dL_law_1571 : decode cL_law 1571 = .ok (.aload_n 0, 1) := by decide +kernel
theorem dL_law_1572 : decode cL_law 1572 = .ok (.iload 4, 2) := by decide +kernel
theorem dL_law_1574 : decode cL_law 1574 = .ok (.iconst 2, 1) := by decide +kernel
theorem dL_law_1575 : decode cL_law 1575 = .ok (.iadd, 1) := by decide +kernel
theorem dL_law_1576 : decode cL_law 1576 = .ok (.iaload, 1) := by decide +kernel
theorem dL_law_1577 : decode cL_law 1577 = .ok (.aload_n 3, 1) := by decide +kernel
theorem dL_law_1578 : decode cL_law 1578 = .ok (.invokestatic 253, 3) := by decide +kernel
theorem dL_law_1581 : decode cL_law 1581 = .ok (.istore 5, 2) := by decide +kernel
theorem dL_law_1583 : decode cL_law 1583 = .ok (.aload_n 2, 1) := by decide +kernel
theorem dL_law_1584 : decode cL_law 1584 = .ok (.aload_n 0, 1) := by decide +kernel
theorem dL_law_1585 : decode cL_law 1585 = .ok (.iload 4, 2) := by decide +kernel
theorem dL_law_1587 : decode cL_law 1587 = .ok (.iconst 1, 1) := by decide +kernel
theorem dL_law_1588 : decode cL_law 1588 = .ok (.iadd, 1) := by decide +kernel
theorem dL_law_1589 : decode cL_law 1589 = .ok (.iaload, 1) := by decide +kernel
theorem dL_law_1590 : decode cL_law 1590 = .ok (.aload_n 0, 1) := by decide +kernel
theorem dL_law_1591 : decode cL_law 1591 = .ok (.iload 4, 2) := by decide +kernel
theorem dL_law_1593 : decode cL_law 1593 = .ok (.iconst 2, 1) := by decide +kernel
theorem dL_law_1594 : decode cL_law 1594 = .ok (.iadd, 1) := by decide +kernel
theorem dL_law_1595 : decode cL_law 1595 = .ok (.iaload, 1) := by decide +kernel
theorem dL_law_1596 : decode cL_law 1596 = .ok (.invokevirtual 255, 3) := by decide +kernel
theorem dL_law_1599 : decode cL_law 1599 = .ok (.istore 6, 2) := by decide +kernel
theorem dL_law_1601 : decode cL_law 1601 = .ok (.aload_n 2, 1) := by decide +kernel
theorem dL_law_1602 : decode cL_law 1602 = .ok (.invokevirtual 188, 3) := by decide +kernel
theorem dL_law_1605 : decode cL_law 1605 = .ok (.iload 5, 2) := by decide +kernel
theorem dL_law_1607 : decode cL_law 1607 = .ok (.if_icmp .eq 5, 3) := by decide +kernel
theorem dL_law_1610 : decode cL_law 1610 = .ok (.iconst 0, 1) := by decide +kernel
theorem dL_law_1611 : decode cL_law 1611 = .ok (.ireturn, 1) := by decide +kernel
theorem dL_law_1612 : decode cL_law 1612 = .ok (.iload 5, 2) := by decide +kernel
theorem dL_law_1614 : decode cL_law 1614 = .ok (.ifCond .ne 22, 3) := by decide +kernel
theorem dL_law_1617 : decode cL_law 1617 = .ok (.aload_n 3, 1) := by decide +kernel
theorem dL_law_1618 : decode cL_law 1618 = .ok (.iconst 0, 1) := by decide +kernel
theorem dL_law_1619 : decode cL_law 1619 = .ok (.laload, 1) := by decide +kernel
theorem dL_law_1620 : decode cL_law 1620 = .ok (.iload 6, 2) := by decide +kernel
theorem dL_law_1622 : decode cL_law 1622 = .ok (.ifCond .eq 7, 3) := by decide +kernel
theorem dL_law_1625 : decode cL_law 1625 = .ok (.lconst 1, 1) := by decide +kernel
theorem dL_law_1626 : decode cL_law 1626 = .ok (.goto 4, 3) := by decide +kernel
theorem dL_law_1629 : decode cL_law 1629 = .ok (.lconst 0, 1) := by decide +kernel
theorem dL_law_1630 : decode cL_law 1630 = .ok (.lcmp, 1) := by decide +kernel
theorem dL_law_1631 : decode cL_law 1631 = .ok (.ifCond .eq 5, 3) := by decide +kernel
theorem dL_law_1634 : decode cL_law 1634 = .ok (.iconst 0, 1) := by decide +kernel
theorem dL_law_1635 : decode cL_law 1635 = .ok (.ireturn, 1) := by decide +kernel
theorem dL_law_1636 : decode cL_law 1636 = .ok (.goto 2024, 3) := by decide +kernel
theorem dL_law_1639 : decode cL_law 1639 = .ok (.aload_n 1, 1) := by decide +kernel
theorem dL_law_1640 : decode cL_law 1640 = .ok (.aload_n 0, 1) := by decide +kernel
theorem dL_law_1641 : decode cL_law 1641 = .ok (.iload 4, 2) := by decide +kernel
theorem dL_law_1643 : decode cL_law 1643 = .ok (.iconst 1, 1) := by decide +kernel
theorem dL_law_1644 : decode cL_law 1644 = .ok (.iadd, 1) := by decide +kernel
theorem dL_law_1645 : decode cL_law 1645 = .ok (.iaload, 1) := by decide +kernel
theorem dL_law_1646 : decode cL_law 1646 = .ok (.aload_n 0, 1) := by decide +kernel
theorem dL_law_1647 : decode cL_law 1647 = .ok (.iload 4, 2) := by decide +kernel
theorem dL_law_1649 : decode cL_law 1649 = .ok (.iconst 2, 1) := by decide +kernel
theorem dL_law_1650 : decode cL_law 1650 = .ok (.iadd, 1) := by decide +kernel
theorem dL_law_1651 : decode cL_law 1651 = .ok (.iaload, 1) := by decide +kernel
theorem dL_law_1652 : decode cL_law 1652 = .ok (.aload_n 3, 1) := by decide +kernel
theorem dL_law_1653 : decode cL_law 1653 = .ok (.invokestatic 256, 3) := by decide +kernel
theorem dL_law_1656 : decode cL_law 1656 = .ok (.istore 5, 2) := by decide +kernel
theorem dL_law_1658 : decode cL_law 1658 = .ok (.aload_n 2, 1) := by decide +kernel
theorem dL_law_1659 : decode cL_law 1659 = .ok (.aload_n 0, 1) := by decide +kernel
theorem dL_law_1660 : decode cL_law 1660 = .ok (.iload 4, 2) := by decide +kernel
theorem dL_law_1662 : decode cL_law 1662 = .ok (.iconst 1, 1) := by decide +kernel
theorem dL_law_1663 : decode cL_law 1663 = .ok (.iadd, 1) := by decide +kernel
theorem dL_law_1664 : decode cL_law 1664 = .ok (.iaload, 1) := by decide +kernel
theorem dL_law_1665 : decode cL_law 1665 = .ok (.aload_n 0, 1) := by decide +kernel
theorem dL_law_1666 : decode cL_law 1666 = .ok (.iload 4, 2) := by decide +kernel
theorem dL_law_1668 : decode cL_law 1668 = .ok (.iconst 2, 1) := by decide +kernel
theorem dL_law_1669 : decode cL_law 1669 = .ok (.iadd, 1) := by decide +kernel
theorem dL_law_1670 : decode cL_law 1670 = .ok (.iaload, 1) := by decide +kernel
theorem dL_law_1671 : decode cL_law 1671 = .ok (.invokevirtual 258, 3) := by decide +kernel
theorem dL_law_1674 : decode cL_law 1674 = .ok (.istore 6, 2) := by decide +kernel
theorem dL_law_1676 : decode cL_law 1676 = .ok (.aload_n 2, 1) := by decide +kernel
theorem dL_law_1677 : decode cL_law 1677 = .ok (.invokevirtual 188, 3) := by decide +kernel
theorem dL_law_1680 : decode cL_law 1680 = .ok (.iload 5, 2) := by decide +kernel
theorem dL_law_1682 : decode cL_law 1682 = .ok (.if_icmp .eq 5, 3) := by decide +kernel
theorem dL_law_1685 : decode cL_law 1685 = .ok (.iconst 0, 1) := by decide +kernel
theorem dL_law_1686 : decode cL_law 1686 = .ok (.ireturn, 1) := by decide +kernel
theorem dL_law_1687 : decode cL_law 1687 = .ok (.iload 5, 2) := by decide +kernel
theorem dL_law_1689 : decode cL_law 1689 = .ok (.ifCond .ne 22, 3) := by decide +kernel
theorem dL_law_1692 : decode cL_law 1692 = .ok (.aload_n 3, 1) := by decide +kernel
theorem dL_law_1693 : decode cL_law 1693 = .ok (.iconst 0, 1) := by decide +kernel
theorem dL_law_1694 : decode cL_law 1694 = .ok (.laload, 1) := by decide +kernel
theorem dL_law_1695 : decode cL_law 1695 = .ok (.iload 6, 2) := by decide +kernel
theorem dL_law_1697 : decode cL_law 1697 = .ok (.ifCond .eq 7, 3) := by decide +kernel
theorem dL_law_1700 : decode cL_law 1700 = .ok (.lconst 1, 1) := by decide +kernel
theorem dL_law_1701 : decode cL_law 1701 = .ok (.goto 4, 3) := by decide +kernel
theorem dL_law_1704 : decode cL_law 1704 = .ok (.lconst 0, 1) := by decide +kernel
theorem dL_law_1705 : decode cL_law 1705 = .ok (.lcmp, 1) := by decide +kernel
theorem dL_law_1706 : decode cL_law 1706 = .ok (.ifCond .eq 5, 3) := by decide +kernel
theorem dL_law_1709 : decode cL_law 1709 = .ok (.iconst 0, 1) := by decide +kernel
theorem dL_law_1710 : decode cL_law 1710 = .ok (.ireturn, 1) := by decide +kernel
theorem dL_law_1711 : decode cL_law 1711 = .ok (.goto 1949, 3) := by decide +kernel
theorem dL_law_1714 : decode cL_law 1714 = .ok (.aload_n 1, 1) := by decide +kernel
theorem dL_law_1715 : decode cL_law 1715 = .ok (.aload_n 0, 1) := by decide +kernel
theorem dL_law_1716 : decode cL_law 1716 = .ok (.iload 4, 2) := by decide +kernel
theorem dL_law_1718 : decode cL_law 1718 = .ok (.iconst 1, 1) := by decide +kernel
theorem dL_law_1719 : decode cL_law 1719 = .ok (.iadd, 1) := by decide +kernel
theorem dL_law_1720 : decode cL_law 1720 = .ok (.iaload, 1) := by decide +kernel
theorem dL_law_1721 : decode cL_law 1721 = .ok (.aload_n 0, 1) := by decide +kernel
theorem dL_law_1722 : decode cL_law 1722 = .ok (.iload 4, 2) := by decide +kernel
theorem dL_law_1724 : decode cL_law 1724 = .ok (.iconst 2, 1) := by decide +kernel
theorem dL_law_1725 : decode cL_law 1725 = .ok (.iadd, 1) := by decide +kernel
theorem dL_law_1726 : decode cL_law 1726 = .ok (.iaload, 1) := by decide +kernel
theorem dL_law_1727 : decode cL_law 1727 = .ok (.aload_n 3, 1) := by decide +kernel
theorem dL_law_1728 : decode cL_law 1728 = .ok (.invokestatic 259, 3) := by decide +kernel
theorem dL_law_1731 : decode cL_law 1731 = .ok (.istore 5, 2) := by decide +kernel
theorem dL_law_1733 : decode cL_law 1733 = .ok (.aload_n 2, 1) := by decide +kernel
theorem dL_law_1734 : decode cL_law 1734 = .ok (.aload_n 0, 1) := by decide +kernel
theorem dL_law_1735 : decode cL_law 1735 = .ok (.iload 4, 2) := by decide +kernel
theorem dL_law_1737 : decode cL_law 1737 = .ok (.iconst 1, 1) := by decide +kernel
theorem dL_law_1738 : decode cL_law 1738 = .ok (.iadd, 1) := by decide +kernel
theorem dL_law_1739 : decode cL_law 1739 = .ok (.iaload, 1) := by decide +kernel
theorem dL_law_1740 : decode cL_law 1740 = .ok (.aload_n 0, 1) := by decide +kernel
theorem dL_law_1741 : decode cL_law 1741 = .ok (.iload 4, 2) := by decide +kernel
theorem dL_law_1743 : decode cL_law 1743 = .ok (.iconst 2, 1) := by decide +kernel
theorem dL_law_1744 : decode cL_law 1744 = .ok (.iadd, 1) := by decide +kernel
theorem dL_law_1745 : decode cL_law 1745 = .ok (.iaload, 1) := by decide +kernel
theorem dL_law_1746 : decode cL_law 1746 = .ok (.invokevirtual 261, 3) := by decide +kernel
theorem dL_law_1749 : decode cL_law 1749 = .ok (.istore 6, 2) := by decide +kernel
theorem dL_law_1751 : decode cL_law 1751 = .ok (.aload_n 2, 1) := by decide +kernel
theorem dL_law_1752 : decode cL_law 1752 = .ok (.invokevirtual 188, 3) := by decide +kernel
theorem dL_law_1755 : decode cL_law 1755 = .ok (.iload 5, 2) := by decide +kernel
theorem dL_law_1757 : decode cL_law 1757 = .ok (.if_icmp .eq 5, 3) := by decide +kernel
theorem dL_law_1760 : decode cL_law 1760 = .ok (.iconst 0, 1) := by decide +kernel
theorem dL_law_1761 : decode cL_law 1761 = .ok (.ireturn, 1) := by decide +kernel
theorem dL_law_1762 : decode cL_law 1762 = .ok (.iload 5, 2) := by decide +kernel
theorem dL_law_1764 : decode cL_law 1764 = .ok (.ifCond .ne 15, 3) := by decide +kernel
theorem dL_law_1767 : decode cL_law 1767 = .ok (.aload_n 3, 1) := by decide +kernel
theorem dL_law_1768 : decode cL_law 1768 = .ok (.iconst 0, 1) := by decide +kernel
theorem dL_law_1769 : decode cL_law 1769 = .ok (.laload, 1) := by decide +kernel
theorem dL_law_1770 : decode cL_law 1770 = .ok (.iload 6, 2) := by decide +kernel
theorem dL_law_1772 : decode cL_law 1772 = .ok (.i2l, 1) := by decide +kernel
theorem dL_law_1773 : decode cL_law 1773 = .ok (.lcmp, 1) := by decide +kernel
theorem dL_law_1774 : decode cL_law 1774 = .ok (.ifCond .eq 5, 3) := by decide +kernel
theorem dL_law_1777 : decode cL_law 1777 = .ok (.iconst 0, 1) := by decide +kernel
theorem dL_law_1778 : decode cL_law 1778 = .ok (.ireturn, 1) := by decide +kernel
theorem dL_law_1779 : decode cL_law 1779 = .ok (.goto 1881, 3) := by decide +kernel
theorem dL_law_1782 : decode cL_law 1782 = .ok (.aload_n 1, 1) := by decide +kernel
theorem dL_law_1783 : decode cL_law 1783 = .ok (.aload_n 0, 1) := by decide +kernel
theorem dL_law_1784 : decode cL_law 1784 = .ok (.iload 4, 2) := by decide +kernel
theorem dL_law_1786 : decode cL_law 1786 = .ok (.iconst 1, 1) := by decide +kernel
theorem dL_law_1787 : decode cL_law 1787 = .ok (.iadd, 1) := by decide +kernel
theorem dL_law_1788 : decode cL_law 1788 = .ok (.iaload, 1) := by decide +kernel
theorem dL_law_1789 : decode cL_law 1789 = .ok (.aload_n 0, 1) := by decide +kernel
theorem dL_law_1790 : decode cL_law 1790 = .ok (.iload 4, 2) := by decide +kernel
theorem dL_law_1792 : decode cL_law 1792 = .ok (.iconst 2, 1) := by decide +kernel
theorem dL_law_1793 : decode cL_law 1793 = .ok (.iadd, 1) := by decide +kernel
theorem dL_law_1794 : decode cL_law 1794 = .ok (.iaload, 1) := by decide +kernel
theorem dL_law_1795 : decode cL_law 1795 = .ok (.aload_n 0, 1) := by decide +kernel
theorem dL_law_1796 : decode cL_law 1796 = .ok (.iload 4, 2) := by decide +kernel
theorem dL_law_1798 : decode cL_law 1798 = .ok (.iconst 3, 1) := by decide +kernel
theorem dL_law_1799 : decode cL_law 1799 = .ok (.iadd, 1) := by decide +kernel
theorem dL_law_1800 : decode cL_law 1800 = .ok (.iaload, 1) := by decide +kernel
theorem dL_law_1801 : decode cL_law 1801 = .ok (.aload_n 3, 1) := by decide +kernel
theorem dL_law_1802 : decode cL_law 1802 = .ok (.invokestatic 262, 3) := by decide +kernel
theorem dL_law_1805 : decode cL_law 1805 = .ok (.istore 5, 2) := by decide +kernel
theorem dL_law_1807 : decode cL_law 1807 = .ok (.aload_n 2, 1) := by decide +kernel
theorem dL_law_1808 : decode cL_law 1808 = .ok (.aload_n 0, 1) := by decide +kernel
theorem dL_law_1809 : decode cL_law 1809 = .ok (.iload 4, 2) := by decide +kernel
theorem dL_law_1811 : decode cL_law 1811 = .ok (.iconst 1, 1) := by decide +kernel
theorem dL_law_1812 : decode cL_law 1812 = .ok (.iadd, 1) := by decide +kernel
theorem dL_law_1813 : decode cL_law 1813 = .ok (.iaload, 1) := by decide +kernel
theorem dL_law_1814 : decode cL_law 1814 = .ok (.aload_n 0, 1) := by decide +kernel
theorem dL_law_1815 : decode cL_law 1815 = .ok (.iload 4, 2) := by decide +kernel
theorem dL_law_1817 : decode cL_law 1817 = .ok (.iconst 2, 1) := by decide +kernel
theorem dL_law_1818 : decode cL_law 1818 = .ok (.iadd, 1) := by decide +kernel
theorem dL_law_1819 : decode cL_law 1819 = .ok (.iaload, 1) := by decide +kernel
theorem dL_law_1820 : decode cL_law 1820 = .ok (.aload_n 0, 1) := by decide +kernel
theorem dL_law_1821 : decode cL_law 1821 = .ok (.iload 4, 2) := by decide +kernel
theorem dL_law_1823 : decode cL_law 1823 = .ok (.iconst 3, 1) := by decide +kernel
theorem dL_law_1824 : decode cL_law 1824 = .ok (.iadd, 1) := by decide +kernel
theorem dL_law_1825 : decode cL_law 1825 = .ok (.iaload, 1) := by decide +kernel
theorem dL_law_1826 : decode cL_law 1826 = .ok (.invokevirtual 264, 3) := by decide +kernel
theorem dL_law_1829 : decode cL_law 1829 = .ok (.istore 6, 2) := by decide +kernel
theorem dL_law_1831 : decode cL_law 1831 = .ok (.aload_n 2, 1) := by decide +kernel
theorem dL_law_1832 : decode cL_law 1832 = .ok (.invokevirtual 188, 3) := by decide +kernel
theorem dL_law_1835 : decode cL_law 1835 = .ok (.iload 5, 2) := by decide +kernel
theorem dL_law_1837 : decode cL_law 1837 = .ok (.if_icmp .eq 5, 3) := by decide +kernel
theorem dL_law_1840 : decode cL_law 1840 = .ok (.iconst 0, 1) := by decide +kernel
theorem dL_law_1841 : decode cL_law 1841 = .ok (.ireturn, 1) := by decide +kernel
theorem dL_law_1842 : decode cL_law 1842 = .ok (.iload 5, 2) := by decide +kernel
theorem dL_law_1844 : decode cL_law 1844 = .ok (.ifCond .ne 15, 3) := by decide +kernel
theorem dL_law_1847 : decode cL_law 1847 = .ok (.aload_n 3, 1) := by decide +kernel
theorem dL_law_1848 : decode cL_law 1848 = .ok (.iconst 0, 1) := by decide +kernel
theorem dL_law_1849 : decode cL_law 1849 = .ok (.laload, 1) := by decide +kernel
theorem dL_law_1850 : decode cL_law 1850 = .ok (.iload 6, 2) := by decide +kernel
theorem dL_law_1852 : decode cL_law 1852 = .ok (.i2l, 1) := by decide +kernel
theorem dL_law_1853 : decode cL_law 1853 = .ok (.lcmp, 1) := by decide +kernel
theorem dL_law_1854 : decode cL_law 1854 = .ok (.ifCond .eq 5, 3) := by decide +kernel
theorem dL_law_1857 : decode cL_law 1857 = .ok (.iconst 0, 1) := by decide +kernel
theorem dL_law_1858 : decode cL_law 1858 = .ok (.ireturn, 1) := by decide +kernel
theorem dL_law_1859 : decode cL_law 1859 = .ok (.goto 1801, 3) := by decide +kernel
theorem dL_law_1862 : decode cL_law 1862 = .ok (.aload_n 1, 1) := by decide +kernel
theorem dL_law_1863 : decode cL_law 1863 = .ok (.aload_n 0, 1) := by decide +kernel
theorem dL_law_1864 : decode cL_law 1864 = .ok (.iload 4, 2) := by decide +kernel
theorem dL_law_1866 : decode cL_law 1866 = .ok (.iconst 1, 1) := by decide +kernel
theorem dL_law_1867 : decode cL_law 1867 = .ok (.iadd, 1) := by decide +kernel
theorem dL_law_1868 : decode cL_law 1868 = .ok (.iaload, 1) := by decide +kernel
theorem dL_law_1869 : decode cL_law 1869 = .ok (.aload_n 0, 1) := by decide +kernel
theorem dL_law_1870 : decode cL_law 1870 = .ok (.iload 4, 2) := by decide +kernel
theorem dL_law_1872 : decode cL_law 1872 = .ok (.iconst 2, 1) := by decide +kernel
theorem dL_law_1873 : decode cL_law 1873 = .ok (.iadd, 1) := by decide +kernel
theorem dL_law_1874 : decode cL_law 1874 = .ok (.iaload, 1) := by decide +kernel
theorem dL_law_1875 : decode cL_law 1875 = .ok (.aload_n 3, 1) := by decide +kernel
theorem dL_law_1876 : decode cL_law 1876 = .ok (.invokestatic 265, 3) := by decide +kernel
theorem dL_law_1879 : decode cL_law 1879 = .ok (.istore 5, 2) := by decide +kernel
theorem dL_law_1881 : decode cL_law 1881 = .ok (.aload_n 2, 1) := by decide +kernel
theorem dL_law_1882 : decode cL_law 1882 = .ok (.aload_n 0, 1) := by decide +kernel
theorem dL_law_1883 : decode cL_law 1883 = .ok (.iload 4, 2) := by decide +kernel
theorem dL_law_1885 : decode cL_law 1885 = .ok (.iconst 1, 1) := by decide +kernel
theorem dL_law_1886 : decode cL_law 1886 = .ok (.iadd, 1) := by decide +kernel
theorem dL_law_1887 : decode cL_law 1887 = .ok (.iaload, 1) := by decide +kernel
theorem dL_law_1888 : decode cL_law 1888 = .ok (.aload_n 0, 1) := by decide +kernel
theorem dL_law_1889 : decode cL_law 1889 = .ok (.iload 4, 2) := by decide +kernel
theorem dL_law_1891 : decode cL_law 1891 = .ok (.iconst 2, 1) := by decide +kernel
theorem dL_law_1892 : decode cL_law 1892 = .ok (.iadd, 1) := by decide +kernel
theorem dL_law_1893 : decode cL_law 1893 = .ok (.iaload, 1) := by decide +kernel
theorem dL_law_1894 : decode cL_law 1894 = .ok (.invokevirtual 267, 3) := by decide +kernel
theorem dL_law_1897 : decode cL_law 1897 = .ok (.istore 6, 2) := by decide +kernel
theorem dL_law_1899 : decode cL_law 1899 = .ok (.aload_n 2, 1) := by decide +kernel
theorem dL_law_1900 : decode cL_law 1900 = .ok (.invokevirtual 188, 3) := by decide +kernel
theorem dL_law_1903 : decode cL_law 1903 = .ok (.iload 5, 2) := by decide +kernel
theorem dL_law_1905 : decode cL_law 1905 = .ok (.if_icmp .eq 5, 3) := by decide +kernel
theorem dL_law_1908 : decode cL_law 1908 = .ok (.iconst 0, 1) := by decide +kernel
theorem dL_law_1909 : decode cL_law 1909 = .ok (.ireturn, 1) := by decide +kernel
theorem dL_law_1910 : decode cL_law 1910 = .ok (.iload 5, 2) := by decide +kernel
theorem dL_law_1912 : decode cL_law 1912 = .ok (.ifCond .ne 15, 3) := by decide +kernel
theorem dL_law_1915 : decode cL_law 1915 = .ok (.aload_n 3, 1) := by decide +kernel
theorem dL_law_1916 : decode cL_law 1916 = .ok (.iconst 0, 1) := by decide +kernel
theorem dL_law_1917 : decode cL_law 1917 = .ok (.laload, 1) := by decide +kernel
theorem dL_law_1918 : decode cL_law 1918 = .ok (.iload 6, 2) := by decide +kernel
theorem dL_law_1920 : decode cL_law 1920 = .ok (.i2l, 1) := by decide +kernel
theorem dL_law_1921 : decode cL_law 1921 = .ok (.lcmp, 1) := by decide +kernel
theorem dL_law_1922 : decode cL_law 1922 = .ok (.ifCond .eq 5, 3) := by decide +kernel
theorem dL_law_1925 : decode cL_law 1925 = .ok (.iconst 0, 1) := by decide +kernel
theorem dL_law_1926 : decode cL_law 1926 = .ok (.ireturn, 1) := by decide +kernel
theorem dL_law_1927 : decode cL_law 1927 = .ok (.goto 1733, 3) := by decide +kernel
theorem dL_law_1930 : decode cL_law 1930 = .ok (.aload_n 1, 1) := by decide +kernel
theorem dL_law_1931 : decode cL_law 1931 = .ok (.aload_n 0, 1) := by decide +kernel
theorem dL_law_1932 : decode cL_law 1932 = .ok (.iload 4, 2) := by decide +kernel
theorem dL_law_1934 : decode cL_law 1934 = .ok (.iconst 1, 1) := by decide +kernel
theorem dL_law_1935 : decode cL_law 1935 = .ok (.iadd, 1) := by decide +kernel
theorem dL_law_1936 : decode cL_law 1936 = .ok (.iaload, 1) := by decide +kernel
theorem dL_law_1937 : decode cL_law 1937 = .ok (.aload_n 0, 1) := by decide +kernel
theorem dL_law_1938 : decode cL_law 1938 = .ok (.iload 4, 2) := by decide +kernel
theorem dL_law_1940 : decode cL_law 1940 = .ok (.iconst 2, 1) := by decide +kernel
theorem dL_law_1941 : decode cL_law 1941 = .ok (.iadd, 1) := by decide +kernel
theorem dL_law_1942 : decode cL_law 1942 = .ok (.iaload, 1) := by decide +kernel
theorem dL_law_1943 : decode cL_law 1943 = .ok (.aload_n 0, 1) := by decide +kernel
theorem dL_law_1944 : decode cL_law 1944 = .ok (.iload 4, 2) := by decide +kernel
theorem dL_law_1946 : decode cL_law 1946 = .ok (.iconst 3, 1) := by decide +kernel
theorem dL_law_1947 : decode cL_law 1947 = .ok (.iadd, 1) := by decide +kernel
theorem dL_law_1948 : decode cL_law 1948 = .ok (.iaload, 1) := by decide +kernel
theorem dL_law_1949 : decode cL_law 1949 = .ok (.aload_n 3, 1) := by decide +kernel
theorem dL_law_1950 : decode cL_law 1950 = .ok (.invokestatic 268, 3) := by decide +kernel
theorem dL_law_1953 : decode cL_law 1953 = .ok (.istore 5, 2) := by decide +kernel
theorem dL_law_1955 : decode cL_law 1955 = .ok (.aload_n 2, 1) := by decide +kernel
theorem dL_law_1956 : decode cL_law 1956 = .ok (.aload_n 0, 1) := by decide +kernel
theorem dL_law_1957 : decode cL_law 1957 = .ok (.iload 4, 2) := by decide +kernel
theorem dL_law_1959 : decode cL_law 1959 = .ok (.iconst 1, 1) := by decide +kernel
theorem dL_law_1960 : decode cL_law 1960 = .ok (.iadd, 1) := by decide +kernel
theorem dL_law_1961 : decode cL_law 1961 = .ok (.iaload, 1) := by decide +kernel
theorem dL_law_1962 : decode cL_law 1962 = .ok (.aload_n 0, 1) := by decide +kernel
theorem dL_law_1963 : decode cL_law 1963 = .ok (.iload 4, 2) := by decide +kernel
theorem dL_law_1965 : decode cL_law 1965 = .ok (.iconst 2, 1) := by decide +kernel
theorem dL_law_1966 : decode cL_law 1966 = .ok (.iadd, 1) := by decide +kernel
theorem dL_law_1967 : decode cL_law 1967 = .ok (.iaload, 1) := by decide +kernel
theorem dL_law_1968 : decode cL_law 1968 = .ok (.aload_n 0, 1) := by decide +kernel
theorem dL_law_1969 : decode cL_law 1969 = .ok (.iload 4, 2) := by decide +kernel
theorem dL_law_1971 : decode cL_law 1971 = .ok (.iconst 3, 1) := by decide +kernel
theorem dL_law_1972 : decode cL_law 1972 = .ok (.iadd, 1) := by decide +kernel
theorem dL_law_1973 : decode cL_law 1973 = .ok (.iaload, 1) := by decide +kernel
theorem dL_law_1974 : decode cL_law 1974 = .ok (.invokevirtual 270, 3) := by decide +kernel
theorem dL_law_1977 : decode cL_law 1977 = .ok (.istore 6, 2) := by decide +kernel
theorem dL_law_1979 : decode cL_law 1979 = .ok (.aload_n 2, 1) := by decide +kernel
theorem dL_law_1980 : decode cL_law 1980 = .ok (.invokevirtual 188, 3) := by decide +kernel
theorem dL_law_1983 : decode cL_law 1983 = .ok (.iload 5, 2) := by decide +kernel
theorem dL_law_1985 : decode cL_law 1985 = .ok (.if_icmp .eq 5, 3) := by decide +kernel
theorem dL_law_1988 : decode cL_law 1988 = .ok (.iconst 0, 1) := by decide +kernel
theorem dL_law_1989 : decode cL_law 1989 = .ok (.ireturn, 1) := by decide +kernel
theorem dL_law_1990 : decode cL_law 1990 = .ok (.iload 5, 2) := by decide +kernel
theorem dL_law_1992 : decode cL_law 1992 = .ok (.ifCond .ne 22, 3) := by decide +kernel
theorem dL_law_1995 : decode cL_law 1995 = .ok (.aload_n 3, 1) := by decide +kernel
theorem dL_law_1996 : decode cL_law 1996 = .ok (.iconst 0, 1) := by decide +kernel
theorem dL_law_1997 : decode cL_law 1997 = .ok (.laload, 1) := by decide +kernel
theorem dL_law_1998 : decode cL_law 1998 = .ok (.iload 6, 2) := by decide +kernel
theorem dL_law_2000 : decode cL_law 2000 = .ok (.ifCond .eq 7, 3) := by decide +kernel
theorem dL_law_2003 : decode cL_law 2003 = .ok (.lconst 1, 1) := by decide +kernel
theorem dL_law_2004 : decode cL_law 2004 = .ok (.goto 4, 3) := by decide +kernel
theorem dL_law_2007 : decode cL_law 2007 = .ok (.lconst 0, 1) := by decide +kernel
theorem dL_law_2008 : decode cL_law 2008 = .ok (.lcmp, 1) := by decide +kernel
theorem dL_law_2009 : decode cL_law 2009 = .ok (.ifCond .eq 5, 3) := by decide +kernel
theorem dL_law_2012 : decode cL_law 2012 = .ok (.iconst 0, 1) := by decide +kernel
theorem dL_law_2013 : decode cL_law 2013 = .ok (.ireturn, 1) := by decide +kernel
theorem dL_law_2014 : decode cL_law 2014 = .ok (.goto 1646, 3) := by decide +kernel
theorem dL_law_2017 : decode cL_law 2017 = .ok (.aload_n 1, 1) := by decide +kernel
theorem dL_law_2018 : decode cL_law 2018 = .ok (.aload_n 0, 1) := by decide +kernel
theorem dL_law_2019 : decode cL_law 2019 = .ok (.iload 4, 2) := by decide +kernel
theorem dL_law_2021 : decode cL_law 2021 = .ok (.iconst 1, 1) := by decide +kernel
theorem dL_law_2022 : decode cL_law 2022 = .ok (.iadd, 1) := by decide +kernel
theorem dL_law_2023 : decode cL_law 2023 = .ok (.iaload, 1) := by decide +kernel
theorem dL_law_2024 : decode cL_law 2024 = .ok (.aload_n 0, 1) := by decide +kernel
theorem dL_law_2025 : decode cL_law 2025 = .ok (.iload 4, 2) := by decide +kernel
theorem dL_law_2027 : decode cL_law 2027 = .ok (.iconst 2, 1) := by decide +kernel
theorem dL_law_2028 : decode cL_law 2028 = .ok (.iadd, 1) := by decide +kernel
theorem dL_law_2029 : decode cL_law 2029 = .ok (.iaload, 1) := by decide +kernel
theorem dL_law_2030 : decode cL_law 2030 = .ok (.aload_n 0, 1) := by decide +kernel
theorem dL_law_2031 : decode cL_law 2031 = .ok (.iload 4, 2) := by decide +kernel
theorem dL_law_2033 : decode cL_law 2033 = .ok (.iconst 3, 1) := by decide +kernel
theorem dL_law_2034 : decode cL_law 2034 = .ok (.iadd, 1) := by decide +kernel
theorem dL_law_2035 : decode cL_law 2035 = .ok (.iaload, 1) := by decide +kernel
theorem dL_law_2036 : decode cL_law 2036 = .ok (.aload_n 3, 1) := by decide +kernel
theorem dL_law_2037 : decode cL_law 2037 = .ok (.invokestatic 271, 3) := by decide +kernel
theorem dL_law_2040 : decode cL_law 2040 = .ok (.istore 5, 2) := by decide +kernel
theorem dL_law_2042 : decode cL_law 2042 = .ok (.aload_n 2, 1) := by decide +kernel
theorem dL_law_2043 : decode cL_law 2043 = .ok (.aload_n 0, 1) := by decide +kernel
theorem dL_law_2044 : decode cL_law 2044 = .ok (.iload 4, 2) := by decide +kernel
theorem dL_law_2046 : decode cL_law 2046 = .ok (.iconst 1, 1) := by decide +kernel
theorem dL_law_2047 : decode cL_law 2047 = .ok (.iadd, 1) := by decide +kernel
theorem dL_law_2048 : decode cL_law 2048 = .ok (.iaload, 1) := by decide +kernel
theorem dL_law_2049 : decode cL_law 2049 = .ok (.aload_n 0, 1) := by decide +kernel
theorem dL_law_2050 : decode cL_law 2050 = .ok (.iload 4, 2) := by decide +kernel
theorem dL_law_2052 : decode cL_law 2052 = .ok (.iconst 2, 1) := by decide +kernel
theorem dL_law_2053 : decode cL_law 2053 = .ok (.iadd, 1) := by decide +kernel
theorem dL_law_2054 : decode cL_law 2054 = .ok (.iaload, 1) := by decide +kernel
theorem dL_law_2055 : decode cL_law 2055 = .ok (.aload_n 0, 1) := by decide +kernel
theorem dL_law_2056 : decode cL_law 2056 = .ok (.iload 4, 2) := by decide +kernel
theorem dL_law_2058 : decode cL_law 2058 = .ok (.iconst 3, 1) := by decide +kernel
theorem dL_law_2059 : decode cL_law 2059 = .ok (.iadd, 1) := by decide +kernel
theorem dL_law_2060 : decode cL_law 2060 = .ok (.iaload, 1) := by decide +kernel
theorem dL_law_2061 : decode cL_law 2061 = .ok (.invokevirtual 273, 3) := by decide +kernel
theorem dL_law_2064 : decode cL_law 2064 = .ok (.istore 6, 2) := by decide +kernel
theorem dL_law_2066 : decode cL_law 2066 = .ok (.aload_n 2, 1) := by decide +kernel
theorem dL_law_2067 : decode cL_law 2067 = .ok (.invokevirtual 188, 3) := by decide +kernel
theorem dL_law_2070 : decode cL_law 2070 = .ok (.iload 5, 2) := by decide +kernel
theorem dL_law_2072 : decode cL_law 2072 = .ok (.if_icmp .eq 5, 3) := by decide +kernel
theorem dL_law_2075 : decode cL_law 2075 = .ok (.iconst 0, 1) := by decide +kernel
theorem dL_law_2076 : decode cL_law 2076 = .ok (.ireturn, 1) := by decide +kernel
theorem dL_law_2077 : decode cL_law 2077 = .ok (.iload 5, 2) := by decide +kernel
theorem dL_law_2079 : decode cL_law 2079 = .ok (.ifCond .ne 15, 3) := by decide +kernel
theorem dL_law_2082 : decode cL_law 2082 = .ok (.aload_n 3, 1) := by decide +kernel
theorem dL_law_2083 : decode cL_law 2083 = .ok (.iconst 0, 1) := by decide +kernel
theorem dL_law_2084 : decode cL_law 2084 = .ok (.laload, 1) := by decide +kernel
theorem dL_law_2085 : decode cL_law 2085 = .ok (.iload 6, 2) := by decide +kernel
theorem dL_law_2087 : decode cL_law 2087 = .ok (.i2l, 1) := by decide +kernel
theorem dL_law_2088 : decode cL_law 2088 = .ok (.lcmp, 1) := by decide +kernel
theorem dL_law_2089 : decode cL_law 2089 = .ok (.ifCond .eq 5, 3) := by decide +kernel
theorem dL_law_2092 : decode cL_law 2092 = .ok (.iconst 0, 1) := by decide +kernel
theorem dL_law_2093 : decode cL_law 2093 = .ok (.ireturn, 1) := by decide +kernel
theorem dL_law_2094 : decode cL_law 2094 = .ok (.goto 1566, 3) := by decide +kernel
theorem dL_law_2097 : decode cL_law 2097 = .ok (.aload_n 1, 1) := by decide +kernel
theorem dL_law_2098 : decode cL_law 2098 = .ok (.aload_n 0, 1) := by decide +kernel
theorem dL_law_2099 : decode cL_law 2099 = .ok (.iload 4, 2) := by decide +kernel
theorem dL_law_2101 : decode cL_law 2101 = .ok (.iconst 1, 1) := by decide +kernel
theorem dL_law_2102 : decode cL_law 2102 = .ok (.iadd, 1) := by decide +kernel
theorem dL_law_2103 : decode cL_law 2103 = .ok (.iaload, 1) := by decide +kernel
theorem dL_law_2104 : decode cL_law 2104 = .ok (.aload_n 0, 1) := by decide +kernel
theorem dL_law_2105 : decode cL_law 2105 = .ok (.iload 4, 2) := by decide +kernel
theorem dL_law_2107 : decode cL_law 2107 = .ok (.iconst 2, 1) := by decide +kernel
theorem dL_law_2108 : decode cL_law 2108 = .ok (.iadd, 1) := by decide +kernel
theorem dL_law_2109 : decode cL_law 2109 = .ok (.iaload, 1) := by decide +kernel
theorem dL_law_2110 : decode cL_law 2110 = .ok (.aload_n 3, 1) := by decide +kernel
theorem dL_law_2111 : decode cL_law 2111 = .ok (.invokestatic 274, 3) := by decide +kernel
theorem dL_law_2114 : decode cL_law 2114 = .ok (.istore 5, 2) := by decide +kernel
theorem dL_law_2116 : decode cL_law 2116 = .ok (.aload_n 2, 1) := by decide +kernel
theorem dL_law_2117 : decode cL_law 2117 = .ok (.aload_n 0, 1) := by decide +kernel
theorem dL_law_2118 : decode cL_law 2118 = .ok (.iload 4, 2) := by decide +kernel
theorem dL_law_2120 : decode cL_law 2120 = .ok (.iconst 1, 1) := by decide +kernel
theorem dL_law_2121 : decode cL_law 2121 = .ok (.iadd, 1) := by decide +kernel
theorem dL_law_2122 : decode cL_law 2122 = .ok (.iaload, 1) := by decide +kernel
theorem dL_law_2123 : decode cL_law 2123 = .ok (.aload_n 0, 1) := by decide +kernel
theorem dL_law_2124 : decode cL_law 2124 = .ok (.iload 4, 2) := by decide +kernel
theorem dL_law_2126 : decode cL_law 2126 = .ok (.iconst 2, 1) := by decide +kernel
theorem dL_law_2127 : decode cL_law 2127 = .ok (.iadd, 1) := by decide +kernel
theorem dL_law_2128 : decode cL_law 2128 = .ok (.iaload, 1) := by decide +kernel
theorem dL_law_2129 : decode cL_law 2129 = .ok (.invokevirtual 276, 3) := by decide +kernel
theorem dL_law_2132 : decode cL_law 2132 = .ok (.istore 6, 2) := by decide +kernel
theorem dL_law_2134 : decode cL_law 2134 = .ok (.aload_n 2, 1) := by decide +kernel
theorem dL_law_2135 : decode cL_law 2135 = .ok (.invokevirtual 188, 3) := by decide +kernel
theorem dL_law_2138 : decode cL_law 2138 = .ok (.iload 5, 2) := by decide +kernel
theorem dL_law_2140 : decode cL_law 2140 = .ok (.if_icmp .eq 5, 3) := by decide +kernel
theorem dL_law_2143 : decode cL_law 2143 = .ok (.iconst 0, 1) := by decide +kernel
theorem dL_law_2144 : decode cL_law 2144 = .ok (.ireturn, 1) := by decide +kernel
theorem dL_law_2145 : decode cL_law 2145 = .ok (.iload 5, 2) := by decide +kernel
theorem dL_law_2147 : decode cL_law 2147 = .ok (.ifCond .ne 22, 3) := by decide +kernel
theorem dL_law_2150 : decode cL_law 2150 = .ok (.aload_n 3, 1) := by decide +kernel
theorem dL_law_2151 : decode cL_law 2151 = .ok (.iconst 0, 1) := by decide +kernel
theorem dL_law_2152 : decode cL_law 2152 = .ok (.laload, 1) := by decide +kernel
theorem dL_law_2153 : decode cL_law 2153 = .ok (.iload 6, 2) := by decide +kernel
theorem dL_law_2155 : decode cL_law 2155 = .ok (.ifCond .eq 7, 3) := by decide +kernel
theorem dL_law_2158 : decode cL_law 2158 = .ok (.lconst 1, 1) := by decide +kernel
theorem dL_law_2159 : decode cL_law 2159 = .ok (.goto 4, 3) := by decide +kernel
theorem dL_law_2162 : decode cL_law 2162 = .ok (.lconst 0, 1) := by decide +kernel
theorem dL_law_2163 : decode cL_law 2163 = .ok (.lcmp, 1) := by decide +kernel
theorem dL_law_2164 : decode cL_law 2164 = .ok (.ifCond .eq 5, 3) := by decide +kernel
theorem dL_law_2167 : decode cL_law 2167 = .ok (.iconst 0, 1) := by decide +kernel
theorem dL_law_2168 : decode cL_law 2168 = .ok (.ireturn, 1) := by decide +kernel
theorem dL_law_2169 : decode cL_law 2169 = .ok (.goto 1491, 3) := by decide +kernel
theorem dL_law_2172 : decode cL_law 2172 = .ok (.aload_n 1, 1) := by decide +kernel
theorem dL_law_2173 : decode cL_law 2173 = .ok (.aload_n 0, 1) := by decide +kernel
theorem dL_law_2174 : decode cL_law 2174 = .ok (.iload 4, 2) := by decide +kernel
theorem dL_law_2176 : decode cL_law 2176 = .ok (.iconst 1, 1) := by decide +kernel
theorem dL_law_2177 : decode cL_law 2177 = .ok (.iadd, 1) := by decide +kernel
theorem dL_law_2178 : decode cL_law 2178 = .ok (.iaload, 1) := by decide +kernel
theorem dL_law_2179 : decode cL_law 2179 = .ok (.aload_n 3, 1) := by decide +kernel
theorem dL_law_2180 : decode cL_law 2180 = .ok (.invokestatic 277, 3) := by decide +kernel
theorem dL_law_2183 : decode cL_law 2183 = .ok (.istore 5, 2) := by decide +kernel
theorem dL_law_2185 : decode cL_law 2185 = .ok (.aload_n 2, 1) := by decide +kernel
theorem dL_law_2186 : decode cL_law 2186 = .ok (.aload_n 0, 1) := by decide +kernel
theorem dL_law_2187 : decode cL_law 2187 = .ok (.iload 4, 2) := by decide +kernel
theorem dL_law_2189 : decode cL_law 2189 = .ok (.iconst 1, 1) := by decide +kernel
theorem dL_law_2190 : decode cL_law 2190 = .ok (.iadd, 1) := by decide +kernel
theorem dL_law_2191 : decode cL_law 2191 = .ok (.iaload, 1) := by decide +kernel
theorem dL_law_2192 : decode cL_law 2192 = .ok (.invokevirtual 279, 3) := by decide +kernel
theorem dL_law_2195 : decode cL_law 2195 = .ok (.istore 6, 2) := by decide +kernel
theorem dL_law_2197 : decode cL_law 2197 = .ok (.aload_n 2, 1) := by decide +kernel
theorem dL_law_2198 : decode cL_law 2198 = .ok (.invokevirtual 188, 3) := by decide +kernel
theorem dL_law_2201 : decode cL_law 2201 = .ok (.iload 5, 2) := by decide +kernel
theorem dL_law_2203 : decode cL_law 2203 = .ok (.if_icmp .eq 5, 3) := by decide +kernel
theorem dL_law_2206 : decode cL_law 2206 = .ok (.iconst 0, 1) := by decide +kernel
theorem dL_law_2207 : decode cL_law 2207 = .ok (.ireturn, 1) := by decide +kernel
theorem dL_law_2208 : decode cL_law 2208 = .ok (.iload 5, 2) := by decide +kernel
theorem dL_law_2210 : decode cL_law 2210 = .ok (.ifCond .ne 22, 3) := by decide +kernel
theorem dL_law_2213 : decode cL_law 2213 = .ok (.aload_n 3, 1) := by decide +kernel
theorem dL_law_2214 : decode cL_law 2214 = .ok (.iconst 0, 1) := by decide +kernel
theorem dL_law_2215 : decode cL_law 2215 = .ok (.laload, 1) := by decide +kernel
theorem dL_law_2216 : decode cL_law 2216 = .ok (.iload 6, 2) := by decide +kernel
theorem dL_law_2218 : decode cL_law 2218 = .ok (.ifCond .eq 7, 3) := by decide +kernel
theorem dL_law_2221 : decode cL_law 2221 = .ok (.lconst 1, 1) := by decide +kernel
theorem dL_law_2222 : decode cL_law 2222 = .ok (.goto 4, 3) := by decide +kernel
theorem dL_law_2225 : decode cL_law 2225 = .ok (.lconst 0, 1) := by decide +kernel
theorem dL_law_2226 : decode cL_law 2226 = .ok (.lcmp, 1) := by decide +kernel
theorem dL_law_2227 : decode cL_law 2227 = .ok (.ifCond .eq 5, 3) := by decide +kernel
theorem dL_law_2230 : decode cL_law 2230 = .ok (.iconst 0, 1) := by decide +kernel
theorem dL_law_2231 : decode cL_law 2231 = .ok (.ireturn, 1) := by decide +kernel
theorem dL_law_2232 : decode cL_law 2232 = .ok (.goto 1428, 3) := by decide +kernel
theorem dL_law_2235 : decode cL_law 2235 = .ok (.aload_n 1, 1) := by decide +kernel
theorem dL_law_2236 : decode cL_law 2236 = .ok (.aload_n 3, 1) := by decide +kernel
theorem dL_law_2237 : decode cL_law 2237 = .ok (.invokestatic 280, 3) := by decide +kernel
theorem dL_law_2240 : decode cL_law 2240 = .ok (.istore 5, 2) := by decide +kernel
theorem dL_law_2242 : decode cL_law 2242 = .ok (.aload_n 2, 1) := by decide +kernel
theorem dL_law_2243 : decode cL_law 2243 = .ok (.invokevirtual 283, 3) := by decide +kernel
theorem dL_law_2246 : decode cL_law 2246 = .ok (.istore 6, 2) := by decide +kernel
theorem dL_law_2248 : decode cL_law 2248 = .ok (.aload_n 2, 1) := by decide +kernel
theorem dL_law_2249 : decode cL_law 2249 = .ok (.invokevirtual 188, 3) := by decide +kernel
theorem dL_law_2252 : decode cL_law 2252 = .ok (.iload 5, 2) := by decide +kernel
theorem dL_law_2254 : decode cL_law 2254 = .ok (.if_icmp .eq 5, 3) := by decide +kernel
theorem dL_law_2257 : decode cL_law 2257 = .ok (.iconst 0, 1) := by decide +kernel
theorem dL_law_2258 : decode cL_law 2258 = .ok (.ireturn, 1) := by decide +kernel
theorem dL_law_2259 : decode cL_law 2259 = .ok (.iload 5, 2) := by decide +kernel
theorem dL_law_2261 : decode cL_law 2261 = .ok (.ifCond .ne 15, 3) := by decide +kernel
theorem dL_law_2264 : decode cL_law 2264 = .ok (.aload_n 3, 1) := by decide +kernel
theorem dL_law_2265 : decode cL_law 2265 = .ok (.iconst 0, 1) := by decide +kernel
theorem dL_law_2266 : decode cL_law 2266 = .ok (.laload, 1) := by decide +kernel
theorem dL_law_2267 : decode cL_law 2267 = .ok (.iload 6, 2) := by decide +kernel
theorem dL_law_2269 : decode cL_law 2269 = .ok (.i2l, 1) := by decide +kernel
theorem dL_law_2270 : decode cL_law 2270 = .ok (.lcmp, 1) := by decide +kernel
theorem dL_law_2271 : decode cL_law 2271 = .ok (.ifCond .eq 5, 3) := by decide +kernel
theorem dL_law_2274 : decode cL_law 2274 = .ok (.iconst 0, 1) := by decide +kernel
theorem dL_law_2275 : decode cL_law 2275 = .ok (.ireturn, 1) := by decide +kernel
theorem dL_law_2276 : decode cL_law 2276 = .ok (.goto 1384, 3) := by decide +kernel
theorem dL_law_2279 : decode cL_law 2279 = .ok (.aload_n 1, 1) := by decide +kernel
theorem dL_law_2280 : decode cL_law 2280 = .ok (.aload_n 0, 1) := by decide +kernel
theorem dL_law_2281 : decode cL_law 2281 = .ok (.iload 4, 2) := by decide +kernel
theorem dL_law_2283 : decode cL_law 2283 = .ok (.iconst 1, 1) := by decide +kernel
theorem dL_law_2284 : decode cL_law 2284 = .ok (.iadd, 1) := by decide +kernel
theorem dL_law_2285 : decode cL_law 2285 = .ok (.iaload, 1) := by decide +kernel
theorem dL_law_2286 : decode cL_law 2286 = .ok (.aload_n 3, 1) := by decide +kernel
theorem dL_law_2287 : decode cL_law 2287 = .ok (.invokestatic 284, 3) := by decide +kernel
theorem dL_law_2290 : decode cL_law 2290 = .ok (.istore 5, 2) := by decide +kernel
theorem dL_law_2292 : decode cL_law 2292 = .ok (.aload_n 2, 1) := by decide +kernel
theorem dL_law_2293 : decode cL_law 2293 = .ok (.aload_n 0, 1) := by decide +kernel
theorem dL_law_2294 : decode cL_law 2294 = .ok (.iload 4, 2) := by decide +kernel
theorem dL_law_2296 : decode cL_law 2296 = .ok (.iconst 1, 1) := by decide +kernel
theorem dL_law_2297 : decode cL_law 2297 = .ok (.iadd, 1) := by decide +kernel
theorem dL_law_2298 : decode cL_law 2298 = .ok (.iaload, 1) := by decide +kernel
theorem dL_law_2299 : decode cL_law 2299 = .ok (.invokevirtual 286, 3) := by decide +kernel
theorem dL_law_23 : decode cL_law 23 = .ok (.iload 4, 2) := by decide +kernel
theorem dL_law_2302 : decode cL_law 2302 = .ok (.istore 6, 2) := by decide +kernel
theorem dL_law_2304 : decode cL_law 2304 = .ok (.aload_n 2, 1) := by decide +kernel
theorem dL_law_2305 : decode cL_law 2305 = .ok (.invokevirtual 188, 3) := by decide +kernel
theorem dL_law_2308 : decode cL_law 2308 = .ok (.iload 5, 2) := by decide +kernel
theorem dL_law_2310 : decode cL_law 2310 = .ok (.if_icmp .eq 5, 3) := by decide +kernel
theorem dL_law_2313 : decode cL_law 2313 = .ok (.iconst 0, 1) := by decide +kernel
theorem dL_law_2314 : decode cL_law 2314 = .ok (.ireturn, 1) := by decide +kernel
theorem dL_law_2315 : decode cL_law 2315 = .ok (.iload 5, 2) := by decide +kernel
theorem dL_law_2317 : decode cL_law 2317 = .ok (.ifCond .ne 15, 3) := by decide +kernel
theorem dL_law_2320 : decode cL_law 2320 = .ok (.aload_n 3, 1) := by decide +kernel
theorem dL_law_2321 : decode cL_law 2321 = .ok (.iconst 0, 1) := by decide +kernel
theorem dL_law_2322 : decode cL_law 2322 = .ok (.laload, 1) := by decide +kernel
theorem dL_law_2323 : decode cL_law 2323 = .ok (.iload 6, 2) := by decide +kernel
theorem dL_law_2325 : decode cL_law 2325 = .ok (.i2l, 1) := by decide +kernel
theorem dL_law_2326 : decode cL_law 2326 = .ok (.lcmp, 1) := by decide +kernel
theorem dL_law_2327 : decode cL_law 2327 = .ok (.ifCond .eq 5, 3) := by decide +kernel
theorem dL_law_2330 : decode cL_law 2330 = .ok (.iconst 0, 1) := by decide +kernel
theorem dL_law_2331 : decode cL_law 2331 = .ok (.ireturn, 1) := by decide +kernel
theorem dL_law_2332 : decode cL_law 2332 = .ok (.goto 1328, 3) := by decide +kernel
theorem dL_law_2335 : decode cL_law 2335 = .ok (.aload_n 1, 1) := by decide +kernel
theorem dL_law_2336 : decode cL_law 2336 = .ok (.aload_n 0, 1) := by decide +kernel
theorem dL_law_2337 : decode cL_law 2337 = .ok (.iload 4, 2) := by decide +kernel
theorem dL_law_2339 : decode cL_law 2339 = .ok (.iconst 1, 1) := by decide +kernel
theorem dL_law_2340 : decode cL_law 2340 = .ok (.iadd, 1) := by decide +kernel
theorem dL_law_2341 : decode cL_law 2341 = .ok (.iaload, 1) := by decide +kernel
theorem dL_law_2342 : decode cL_law 2342 = .ok (.aload_n 0, 1) := by decide +kernel
theorem dL_law_2343 : decode cL_law 2343 = .ok (.iload 4, 2) := by decide +kernel
theorem dL_law_2345 : decode cL_law 2345 = .ok (.iconst 2, 1) := by decide +kernel
theorem dL_law_2346 : decode cL_law 2346 = .ok (.iadd, 1) := by decide +kernel
theorem dL_law_2347 : decode cL_law 2347 = .ok (.iaload, 1) := by decide +kernel
theorem dL_law_2348 : decode cL_law 2348 = .ok (.aload_n 0, 1) := by decide +kernel
theorem dL_law_2349 : decode cL_law 2349 = .ok (.iload 4, 2) := by decide +kernel
theorem dL_law_2351 : decode cL_law 2351 = .ok (.iconst 3, 1) := by decide +kernel
theorem dL_law_2352 : decode cL_law 2352 = .ok (.iadd, 1) := by decide +kernel
theorem dL_law_2353 : decode cL_law 2353 = .ok (.iaload, 1) := by decide +kernel
theorem dL_law_2354 : decode cL_law 2354 = .ok (.aload_n 0, 1) := by decide +kernel
theorem dL_law_2355 : decode cL_law 2355 = .ok (.iload 4, 2) := by decide +kernel
theorem dL_law_2357 : decode cL_law 2357 = .ok (.iconst 4, 1) := by decide +kernel
theorem dL_law_2358 : decode cL_law 2358 = .ok (.iadd, 1) := by decide +kernel
theorem dL_law_2359 : decode cL_law 2359 = .ok (.iaload, 1) := by decide +kernel
theorem dL_law_2360 : decode cL_law 2360 = .ok (.aload_n 0, 1) := by decide +kernel
theorem dL_law_2361 : decode cL_law 2361 = .ok (.iload 4, 2) := by decide +kernel
theorem dL_law_2363 : decode cL_law 2363 = .ok (.iconst 5, 1) := by decide +kernel
theorem dL_law_2364 : decode cL_law 2364 = .ok (.iadd, 1) := by decide +kernel
theorem dL_law_2365 : decode cL_law 2365 = .ok (.iaload, 1) := by decide +kernel
theorem dL_law_2366 : decode cL_law 2366 = .ok (.aload_n 3, 1) := by decide +kernel
theorem dL_law_2367 : decode cL_law 2367 = .ok (.invokestatic 287, 3) := by decide +kernel
theorem dL_law_2370 : decode cL_law 2370 = .ok (.istore 5, 2) := by decide +kernel
theorem dL_law_2372 : decode cL_law 2372 = .ok (.aload_n 2, 1) := by decide +kernel
theorem dL_law_2373 : decode cL_law 2373 = .ok (.aload_n 0, 1) := by decide +kernel
theorem dL_law_2374 : decode cL_law 2374 = .ok (.iload 4, 2) := by decide +kernel
theorem dL_law_2376 : decode cL_law 2376 = .ok (.iconst 1, 1) := by decide +kernel
theorem dL_law_2377 : decode cL_law 2377 = .ok (.iadd, 1) := by decide +kernel
theorem dL_law_2378 : decode cL_law 2378 = .ok (.iaload, 1) := by decide +kernel
theorem dL_law_2379 : decode cL_law 2379 = .ok (.aload_n 0, 1) := by decide +kernel
theorem dL_law_2380 : decode cL_law 2380 = .ok (.iload 4, 2) := by decide +kernel
theorem dL_law_2382 : decode cL_law 2382 = .ok (.iconst 2, 1) := by decide +kernel
theorem dL_law_2383 : decode cL_law 2383 = .ok (.iadd, 1) := by decide +kernel
theorem dL_law_2384 : decode cL_law 2384 = .ok (.iaload, 1) := by decide +kernel
theorem dL_law_2385 : decode cL_law 2385 = .ok (.aload_n 0, 1) := by decide +kernel
theorem dL_law_2386 : decode cL_law 2386 = .ok (.iload 4, 2) := by decide +kernel
theorem dL_law_2388 : decode cL_law 2388 = .ok (.iconst 3, 1) := by decide +kernel
theorem dL_law_2389 : decode cL_law 2389 = .ok (.iadd, 1) := by decide +kernel
theorem dL_law_2390 : decode cL_law 2390 = .ok (.iaload, 1) := by decide +kernel
theorem dL_law_2391 : decode cL_law 2391 = .ok (.aload_n 0, 1) := by decide +kernel
theorem dL_law_2392 : decode cL_law 2392 = .ok (.iload 4, 2) := by decide +kernel
theorem dL_law_2394 : decode cL_law 2394 = .ok (.iconst 4, 1) := by decide +kernel
theorem dL_law_2395 : decode cL_law 2395 = .ok (.iadd, 1) := by decide +kernel
theorem dL_law_2396 : decode cL_law 2396 = .ok (.iaload, 1) := by decide +kernel
theorem dL_law_2397 : decode cL_law 2397 = .ok (.aload_n 0, 1) := by decide +kernel
theorem dL_law_2398 : decode cL_law 2398 = .ok (.iload 4, 2) := by decide +kernel
theorem dL_law_2400 : decode cL_law 2400 = .ok (.iconst 5, 1) := by decide +kernel
theorem dL_law_2401 : decode cL_law 2401 = .ok (.iadd, 1) := by decide +kernel
theorem dL_law_2402 : decode cL_law 2402 = .ok (.iaload, 1) := by decide +kernel
theorem dL_law_2403 : decode cL_law 2403 = .ok (.invokevirtual 289, 3) := by decide +kernel
theorem dL_law_2406 : decode cL_law 2406 = .ok (.istore 6, 2) := by decide +kernel
theorem dL_law_2408 : decode cL_law 2408 = .ok (.aload_n 2, 1) := by decide +kernel
theorem dL_law_2409 : decode cL_law 2409 = .ok (.invokevirtual 188, 3) := by decide +kernel
theorem dL_law_2412 : decode cL_law 2412 = .ok (.iload 5, 2) := by decide +kernel
theorem dL_law_2414 : decode cL_law 2414 = .ok (.if_icmp .eq 5, 3) := by decide +kernel
theorem dL_law_2417 : decode cL_law 2417 = .ok (.iconst 0, 1) := by decide +kernel
theorem dL_law_2418 : decode cL_law 2418 = .ok (.ireturn, 1) := by decide +kernel
theorem dL_law_2419 : decode cL_law 2419 = .ok (.iload 5, 2) := by decide +kernel
theorem dL_law_2421 : decode cL_law 2421 = .ok (.ifCond .ne 15, 3) := by decide +kernel
theorem dL_law_2424 : decode cL_law 2424 = .ok (.aload_n 3, 1) := by decide +kernel
theorem dL_law_2425 : decode cL_law 2425 = .ok (.iconst 0, 1) := by decide +kernel
theorem dL_law_2426 : decode cL_law 2426 = .ok (.laload, 1) := by decide +kernel
theorem dL_law_2427 : decode cL_law 2427 = .ok (.iload 6, 2) := by decide +kernel
theorem dL_law_2429 : decode cL_law 2429 = .ok (.i2l, 1) := by decide +kernel
theorem dL_law_2430 : decode cL_law 2430 = .ok (.lcmp, 1) := by decide +kernel
theorem dL_law_2431 : decode cL_law 2431 = .ok (.ifCond .eq 5, 3) := by decide +kernel
theorem dL_law_2434 : decode cL_law 2434 = .ok (.iconst 0, 1) := by decide +kernel
theorem dL_law_2435 : decode cL_law 2435 = .ok (.ireturn, 1) := by decide +kernel
theorem dL_law_2436 : decode cL_law 2436 = .ok (.goto 1224, 3) := by decide +kernel
theorem dL_law_2439 : decode cL_law 2439 = .ok (.aload_n 1, 1) := by decide +kernel
theorem dL_law_2440 : decode cL_law 2440 = .ok (.aload_n 3, 1) := by decide +kernel
theorem dL_law_2441 : decode cL_law 2441 = .ok (.invokestatic 290, 3) := by decide +kernel
theorem dL_law_2444 : decode cL_law 2444 = .ok (.istore 5, 2) := by decide +kernel
theorem dL_law_2446 : decode cL_law 2446 = .ok (.aload_n 2, 1) := by decide +kernel
theorem dL_law_2447 : decode cL_law 2447 = .ok (.invokevirtual 292, 3) := by decide +kernel
theorem dL_law_2450 : decode cL_law 2450 = .ok (.istore 6, 2) := by decide +kernel
theorem dL_law_2452 : decode cL_law 2452 = .ok (.aload_n 2, 1) := by decide +kernel
theorem dL_law_2453 : decode cL_law 2453 = .ok (.invokevirtual 188, 3) := by decide +kernel
theorem dL_law_2456 : decode cL_law 2456 = .ok (.iload 5, 2) := by decide +kernel
theorem dL_law_2458 : decode cL_law 2458 = .ok (.if_icmp .eq 5, 3) := by decide +kernel
theorem dL_law_2461 : decode cL_law 2461 = .ok (.iconst 0, 1) := by decide +kernel
theorem dL_law_2462 : decode cL_law 2462 = .ok (.ireturn, 1) := by decide +kernel
theorem dL_law_2463 : decode cL_law 2463 = .ok (.iload 5, 2) := by decide +kernel
theorem dL_law_2465 : decode cL_law 2465 = .ok (.ifCond .ne 15, 3) := by decide +kernel
theorem dL_law_2468 : decode cL_law 2468 = .ok (.aload_n 3, 1) := by decide +kernel
theorem dL_law_2469 : decode cL_law 2469 = .ok (.iconst 0, 1) := by decide +kernel
theorem dL_law_2470 : decode cL_law 2470 = .ok (.laload, 1) := by decide +kernel
theorem dL_law_2471 : decode cL_law 2471 = .ok (.iload 6, 2) := by decide +kernel
theorem dL_law_2473 : decode cL_law 2473 = .ok (.i2l, 1) := by decide +kernel
theorem dL_law_2474 : decode cL_law 2474 = .ok (.lcmp, 1) := by decide +kernel
theorem dL_law_2475 : decode cL_law 2475 = .ok (.ifCond .eq 5, 3) := by decide +kernel
theorem dL_law_2478 : decode cL_law 2478 = .ok (.iconst 0, 1) := by decide +kernel
theorem dL_law_2479 : decode cL_law 2479 = .ok (.ireturn, 1) := by decide +kernel
theorem dL_law_2480 : decode cL_law 2480 = .ok (.goto 1180, 3) := by decide +kernel
theorem dL_law_2483 : decode cL_law 2483 = .ok (.aload_n 1, 1) := by decide +kernel
theorem dL_law_2484 : decode cL_law 2484 = .ok (.invokevirtual 293, 3) := by decide +kernel
theorem dL_law_2487 : decode cL_law 2487 = .ok (.aload_n 2, 1) := by decide +kernel
theorem dL_law_2488 : decode cL_law 2488 = .ok (.invokevirtual 296, 3) := by decide +kernel
theorem dL_law_2491 : decode cL_law 2491 = .ok (.if_icmp .eq 1169, 3) := by decide +kernel
theorem dL_law_2494 : decode cL_law 2494 = .ok (.iconst 0, 1) := by decide +kernel
theorem dL_law_2495 : decode cL_law 2495 = .ok (.ireturn, 1) := by decide +kernel
theorem dL_law_2496 : decode cL_law 2496 = .ok (.aload_n 1, 1) := by decide +kernel
theorem dL_law_2497 : decode cL_law 2497 = .ok (.aload_n 0, 1) := by decide +kernel
theorem dL_law_2498 : decode cL_law 2498 = .ok (.iload 4, 2) := by decide +kernel
theorem dL_law_25 : decode cL_law 25 = .ok (.aload_n 0, 1) := by decide +kernel
theorem dL_law_2500 : decode cL_law 2500 = .ok (.iconst 1, 1) := by decide +kernel
theorem dL_law_2501 : decode cL_law 2501 = .ok (.iadd, 1) := by decide +kernel
theorem dL_law_2502 : decode cL_law 2502 = .ok (.iaload, 1) := by decide +kernel
theorem dL_law_2503 : decode cL_law 2503 = .ok (.aload_n 3, 1) := by decide +kernel
theorem dL_law_2504 : decode cL_law 2504 = .ok (.invokestatic 297, 3) := by decide +kernel
theorem dL_law_2507 : decode cL_law 2507 = .ok (.istore 5, 2) := by decide +kernel
theorem dL_law_2509 : decode cL_law 2509 = .ok (.aload_n 2, 1) := by decide +kernel
theorem dL_law_2510 : decode cL_law 2510 = .ok (.aload_n 0, 1) := by decide +kernel
theorem dL_law_2511 : decode cL_law 2511 = .ok (.iload 4, 2) := by decide +kernel
theorem dL_law_2513 : decode cL_law 2513 = .ok (.iconst 1, 1) := by decide +kernel
theorem dL_law_2514 : decode cL_law 2514 = .ok (.iadd, 1) := by decide +kernel
theorem dL_law_2515 : decode cL_law 2515 = .ok (.iaload, 1) := by decide +kernel
theorem dL_law_2516 : decode cL_law 2516 = .ok (.invokevirtual 299, 3) := by decide +kernel
theorem dL_law_2519 : decode cL_law 2519 = .ok (.istore 6, 2) := by decide +kernel
theorem dL_law_2521 : decode cL_law 2521 = .ok (.aload_n 2, 1) := by decide +kernel
theorem dL_law_2522 : decode cL_law 2522 = .ok (.invokevirtual 188, 3) := by decide +kernel
theorem dL_law_2525 : decode cL_law 2525 = .ok (.iload 5, 2) := by decide +kernel
theorem dL_law_2527 : decode cL_law 2527 = .ok (.if_icmp .eq 5, 3) := by decide +kernel
theorem dL_law_2530 : decode cL_law 2530 = .ok (.iconst 0, 1) := by decide +kernel
theorem dL_law_2531 : decode cL_law 2531 = .ok (.ireturn, 1) := by decide +kernel
theorem dL_law_2532 : decode cL_law 2532 = .ok (.iload 5, 2) := by decide +kernel
theorem dL_law_2534 : decode cL_law 2534 = .ok (.ifCond .ne 15, 3) := by decide +kernel
theorem dL_law_2537 : decode cL_law 2537 = .ok (.aload_n 3, 1) := by decide +kernel
theorem dL_law_2538 : decode cL_law 2538 = .ok (.iconst 0, 1) := by decide +kernel
theorem dL_law_2539 : decode cL_law 2539 = .ok (.laload, 1) := by decide +kernel
theorem dL_law_2540 : decode cL_law 2540 = .ok (.iload 6, 2) := by decide +kernel
theorem dL_law_2542 : decode cL_law 2542 = .ok (.i2l, 1) := by decide +kernel
theorem dL_law_2543 : decode cL_law 2543 = .ok (.lcmp, 1) := by decide +kernel
theorem dL_law_2544 : decode cL_law 2544 = .ok (.ifCond .eq 5, 3) := by decide +kernel
theorem dL_law_2547 : decode cL_law 2547 = .ok (.iconst 0, 1) := by decide +kernel
theorem dL_law_2548 : decode cL_law 2548 = .ok (.ireturn, 1) := by decide +kernel
theorem dL_law_2549 : decode cL_law 2549 = .ok (.goto 1111, 3) := by decide +kernel
theorem dL_law_2552 : decode cL_law 2552 = .ok (.aload_n 1, 1) := by decide +kernel
theorem dL_law_2553 : decode cL_law 2553 = .ok (.aload_n 0, 1) := by decide +kernel
theorem dL_law_2554 : decode cL_law 2554 = .ok (.iload 4, 2) := by decide +kernel
theorem dL_law_2556 : decode cL_law 2556 = .ok (.iconst 1, 1) := by decide +kernel
theorem dL_law_2557 : decode cL_law 2557 = .ok (.iadd, 1) := by decide +kernel
theorem dL_law_2558 : decode cL_law 2558 = .ok (.iaload, 1) := by decide +kernel
theorem dL_law_2559 : decode cL_law 2559 = .ok (.aload_n 0, 1) := by decide +kernel
theorem dL_law_2560 : decode cL_law 2560 = .ok (.iload 4, 2) := by decide +kernel
theorem dL_law_2562 : decode cL_law 2562 = .ok (.iconst 2, 1) := by decide +kernel
theorem dL_law_2563 : decode cL_law 2563 = .ok (.iadd, 1) := by decide +kernel
theorem dL_law_2564 : decode cL_law 2564 = .ok (.iaload, 1) := by decide +kernel
theorem dL_law_2565 : decode cL_law 2565 = .ok (.aload_n 3, 1) := by decide +kernel
theorem dL_law_2566 : decode cL_law 2566 = .ok (.invokestatic 300, 3) := by decide +kernel
theorem dL_law_2569 : decode cL_law 2569 = .ok (.istore 5, 2) := by decide +kernel
theorem dL_law_2571 : decode cL_law 2571 = .ok (.aload_n 2, 1) := by decide +kernel
theorem dL_law_2572 : decode cL_law 2572 = .ok (.aload_n 0, 1) := by decide +kernel
theorem dL_law_2573 : decode cL_law 2573 = .ok (.iload 4, 2) := by decide +kernel
theorem dL_law_2575 : decode cL_law 2575 = .ok (.iconst 1, 1) := by decide +kernel
theorem dL_law_2576 : decode cL_law 2576 = .ok (.iadd, 1) := by decide +kernel
theorem dL_law_2577 : decode cL_law 2577 = .ok (.iaload, 1) := by decide +kernel
theorem dL_law_2578 : decode cL_law 2578 = .ok (.aload_n 0, 1) := by decide +kernel
theorem dL_law_2579 : decode cL_law 2579 = .ok (.iload 4, 2) := by decide +kernel
theorem dL_law_2581 : decode cL_law 2581 = .ok (.iconst 2, 1) := by decide +kernel
theorem dL_law_2582 : decode cL_law 2582 = .ok (.iadd, 1) := by decide +kernel
theorem dL_law_2583 : decode cL_law 2583 = .ok (.iaload, 1) := by decide +kernel
theorem dL_law_2584 : decode cL_law 2584 = .ok (.invokevirtual 302, 3) := by decide +kernel
theorem dL_law_2587 : decode cL_law 2587 = .ok (.istore 6, 2) := by decide +kernel
theorem dL_law_2589 : decode cL_law 2589 = .ok (.aload_n 2, 1) := by decide +kernel
theorem dL_law_2590 : decode cL_law 2590 = .ok (.invokevirtual 188, 3) := by decide +kernel
theorem dL_law_2593 : decode cL_law 2593 = .ok (.iload 5, 2) := by decide +kernel
theorem dL_law_2595 : decode cL_law 2595 = .ok (.if_icmp .eq 5, 3) := by decide +kernel
theorem dL_law_2598 : decode cL_law 2598 = .ok (.iconst 0, 1) := by decide +kernel
theorem dL_law_2599 : decode cL_law 2599 = .ok (.ireturn, 1) := by decide +kernel
theorem dL_law_26 : decode cL_law 26 = .ok (.arraylength, 1) := by decide +kernel
theorem dL_law_2600 : decode cL_law 2600 = .ok (.iload 5, 2) := by decide +kernel
theorem dL_law_2602 : decode cL_law 2602 = .ok (.ifCond .ne 22, 3) := by decide +kernel
theorem dL_law_2605 : decode cL_law 2605 = .ok (.aload_n 3, 1) := by decide +kernel
theorem dL_law_2606 : decode cL_law 2606 = .ok (.iconst 0, 1) := by decide +kernel
theorem dL_law_2607 : decode cL_law 2607 = .ok (.laload, 1) := by decide +kernel
theorem dL_law_2608 : decode cL_law 2608 = .ok (.iload 6, 2) := by decide +kernel
theorem dL_law_2610 : decode cL_law 2610 = .ok (.ifCond .eq 7, 3) := by decide +kernel
theorem dL_law_2613 : decode cL_law 2613 = .ok (.lconst 1, 1) := by decide +kernel
theorem dL_law_2614 : decode cL_law 2614 = .ok (.goto 4, 3) := by decide +kernel
theorem dL_law_2617 : decode cL_law 2617 = .ok (.lconst 0, 1) := by decide +kernel
theorem dL_law_2618 : decode cL_law 2618 = .ok (.lcmp, 1) := by decide +kernel
theorem dL_law_2619 : decode cL_law 2619 = .ok (.ifCond .eq 5, 3) := by decide +kernel
theorem dL_law_2622 : decode cL_law 2622 = .ok (.iconst 0, 1) := by decide +kernel
theorem dL_law_2623 : decode cL_law 2623 = .ok (.ireturn, 1) := by decide +kernel
theorem dL_law_2624 : decode cL_law 2624 = .ok (.goto 1036, 3) := by decide +kernel
theorem dL_law_2627 : decode cL_law 2627 = .ok (.aload_n 1, 1) := by decide +kernel
theorem dL_law_2628 : decode cL_law 2628 = .ok (.aload_n 3, 1) := by decide +kernel
theorem dL_law_2629 : decode cL_law 2629 = .ok (.invokestatic 303, 3) := by decide +kernel
theorem dL_law_2632 : decode cL_law 2632 = .ok (.istore 5, 2) := by decide +kernel
theorem dL_law_2634 : decode cL_law 2634 = .ok (.aload_n 2, 1) := by decide +kernel
theorem dL_law_2635 : decode cL_law 2635 = .ok (.invokevirtual 305, 3) := by decide +kernel
theorem dL_law_2638 : decode cL_law 2638 = .ok (.istore 6, 2) := by decide +kernel
theorem dL_law_2640 : decode cL_law 2640 = .ok (.aload_n 2, 1) := by decide +kernel
theorem dL_law_2641 : decode cL_law 2641 = .ok (.invokevirtual 188, 3) := by decide +kernel
theorem dL_law_2644 : decode cL_law 2644 = .ok (.iload 5, 2) := by decide +kernel
theorem dL_law_2646 : decode cL_law 2646 = .ok (.if_icmp .eq 5, 3) := by decide +kernel
theorem dL_law_2649 : decode cL_law 2649 = .ok (.iconst 0, 1) := by decide +kernel
theorem dL_law_2650 : decode cL_law 2650 = .ok (.ireturn, 1) := by decide +kernel
theorem dL_law_2651 : decode cL_law 2651 = .ok (.iload 5, 2) := by decide +kernel
theorem dL_law_2653 : decode cL_law 2653 = .ok (.ifCond .ne 15, 3) := by decide +kernel
theorem dL_law_2656 : decode cL_law 2656 = .ok (.aload_n 3, 1) := by decide +kernel
theorem dL_law_2657 : decode cL_law 2657 = .ok (.iconst 0, 1) := by decide +kernel
theorem dL_law_2658 : decode cL_law 2658 = .ok (.laload, 1) := by decide +kernel
theorem dL_law_2659 : decode cL_law 2659 = .ok (.iload 6, 2) := by decide +kernel
theorem dL_law_2661 : decode cL_law 2661 = .ok (.i2l, 1) := by decide +kernel
theorem dL_law_2662 : decode cL_law 2662 = .ok (.lcmp, 1) := by decide +kernel
theorem dL_law_2663 : decode cL_law 2663 = .ok (.ifCond .eq 5, 3) := by decide +kernel
theorem dL_law_2666 : decode cL_law 2666 = .ok (.iconst 0, 1) := by decide +kernel
theorem dL_law_2667 : decode cL_law 2667 = .ok (.ireturn, 1) := by decide +kernel
theorem dL_law_2668 : decode cL_law 2668 = .ok (.goto 992, 3) := by decide +kernel
theorem dL_law_2671 : decode cL_law 2671 = .ok (.aload_n 1, 1) := by decide +kernel
theorem dL_law_2672 : decode cL_law 2672 = .ok (.aload_n 3, 1) := by decide +kernel
theorem dL_law_2673 : decode cL_law 2673 = .ok (.invokestatic 306, 3) := by decide +kernel
theorem dL_law_2676 : decode cL_law 2676 = .ok (.istore 5, 2) := by decide +kernel
theorem dL_law_2678 : decode cL_law 2678 = .ok (.aload_n 2, 1) := by decide +kernel
