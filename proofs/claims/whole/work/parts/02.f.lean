theorem dL_assignAll_8 : decode cL_assignAll 8 = .ok (.lastore, 1) := by decide +kernel
theorem dL_assignAll_9 : decode cL_assignAll 9 = .ok (.goto 6, 3) := by decide +kernel
theorem dL_assignAll_12 : decode cL_assignAll 12 = .ok (.astore_n 3, 1) := by decide +kernel
theorem dL_assignAll_13 : decode cL_assignAll 13 = .ok (.iconst 1, 1) := by decide +kernel
theorem dL_assignAll_14 : decode cL_assignAll 14 = .ok (.ireturn, 1) := by decide +kernel
theorem dL_assignAll_15 : decode cL_assignAll 15 = .ok (.iconst 0, 1) := by decide +kernel
theorem dL_assignAll_16 : decode cL_assignAll 16 = .ok (.ireturn, 1) := by decide +kernel
theorem dL_reviewerOf_0 : decode cL_reviewerOf 0 = .ok (.aload_n 3, 1) := by decide +kernel
theorem dL_reviewerOf_1 : decode cL_reviewerOf 1 = .ok (.iconst 0, 1) := by decide +kernel
theorem dL_reviewerOf_2 : decode cL_reviewerOf 2 = .ok (.aload_n 0, 1) := by decide +kernel
theorem dL_reviewerOf_3 : decode cL_reviewerOf 3 = .ok (.iload_n 1, 1) := by decide +kernel
theorem dL_reviewerOf_4 : decode cL_reviewerOf 4 = .ok (.iload_n 2, 1) := by decide +kernel
theorem dL_reviewerOf_5 : decode cL_reviewerOf 5 = .ok (.invokevirtual 52, 3) := by decide +kernel
theorem dL_reviewerOf_8 : decode cL_reviewerOf 8 = .ok (.i2l, 1) := by decide +kernel
theorem dL_reviewerOf_9 : decode cL_reviewerOf 9 = .ok (.lastore, 1) := by decide +kernel
theorem dL_reviewerOf_10 : decode cL_reviewerOf 10 = .ok (.goto 7, 3) := by decide +kernel
theorem dL_reviewerOf_13 : decode cL_reviewerOf 13 = .ok (.astore 4, 2) := by decide +kernel
theorem dL_reviewerOf_15 : decode cL_reviewerOf 15 = .ok (.iconst 1, 1) := by decide +kernel
theorem dL_reviewerOf_16 : decode cL_reviewerOf 16 = .ok (.ireturn, 1) := by decide +kernel
theorem dL_reviewerOf_17 : decode cL_reviewerOf 17 = .ok (.iconst 0, 1) := by decide +kernel
theorem dL_reviewerOf_18 : decode cL_reviewerOf 18 = .ok (.ireturn, 1) := by decide +kernel
theorem dL_loadOf_0 : decode cL_loadOf 0 = .ok (.aload_n 2, 1) := by decide +kernel
theorem dL_loadOf_1 : decode cL_loadOf 1 = .ok (.iconst 0, 1) := by decide +kernel
theorem dL_loadOf_2 : decode cL_loadOf 2 = .ok (.aload_n 0, 1) := by decide +kernel
theorem dL_loadOf_3 : decode cL_loadOf 3 = .ok (.iload_n 1, 1) := by decide +kernel
theorem dL_loadOf_4 : decode cL_loadOf 4 = .ok (.invokevirtual 55, 3) := by decide +kernel
theorem dL_loadOf_7 : decode cL_loadOf 7 = .ok (.i2l, 1) := by decide +kernel
theorem dL_loadOf_8 : decode cL_loadOf 8 = .ok (.lastore, 1) := by decide +kernel
theorem dL_loadOf_9 : decode cL_loadOf 9 = .ok (.goto 6, 3) := by decide +kernel
theorem dL_loadOf_12 : decode cL_loadOf 12 = .ok (.astore_n 3, 1) := by decide +kernel
theorem dL_loadOf_13 : decode cL_loadOf 13 = .ok (.iconst 1, 1) := by decide +kernel
theorem dL_loadOf_14 : decode cL_loadOf 14 = .ok (.ireturn, 1) := by decide +kernel
theorem dL_loadOf_15 : decode cL_loadOf 15 = .ok (.iconst 0, 1) := by decide +kernel
theorem dL_loadOf_16 : decode cL_loadOf 16 = .ok (.ireturn, 1) := by decide +kernel
theorem dL_matchSum_0 : decode cL_matchSum 0 = .ok (.aload_n 2, 1) := by decide +kernel
theorem dL_matchSum_1 : decode cL_matchSum 1 = .ok (.iconst 0, 1) := by decide +kernel
theorem dL_matchSum_2 : decode cL_matchSum 2 = .ok (.aload_n 0, 1) := by decide +kernel
theorem dL_matchSum_3 : decode cL_matchSum 3 = .ok (.iload_n 1, 1) := by decide +kernel
theorem dL_matchSum_4 : decode cL_matchSum 4 = .ok (.invokevirtual 58, 3) := by decide +kernel
theorem dL_matchSum_7 : decode cL_matchSum 7 = .ok (.i2l, 1) := by decide +kernel
theorem dL_matchSum_8 : decode cL_matchSum 8 = .ok (.lastore, 1) := by decide +kernel
theorem dL_matchSum_9 : decode cL_matchSum 9 = .ok (.goto 6, 3) := by decide +kernel
theorem dL_matchSum_12 : decode cL_matchSum 12 = .ok (.astore_n 3, 1) := by decide +kernel
theorem dL_matchSum_13 : decode cL_matchSum 13 = .ok (.iconst 1, 1) := by decide +kernel
theorem dL_matchSum_14 : decode cL_matchSum 14 = .ok (.ireturn, 1) := by decide +kernel
theorem dL_matchSum_15 : decode cL_matchSum 15 = .ok (.iconst 0, 1) := by decide +kernel
theorem dL_matchSum_16 : decode cL_matchSum 16 = .ok (.ireturn, 1) := by decide +kernel
theorem dL_mostReviews_0 : decode cL_mostReviews 0 = .ok (.aload_n 2, 1) := by decide +kernel
theorem dL_mostReviews_1 : decode cL_mostReviews 1 = .ok (.iconst 0, 1) := by decide +kernel
theorem dL_mostReviews_2 : decode cL_mostReviews 2 = .ok (.aload_n 0, 1) := by decide +kernel
theorem dL_mostReviews_3 : decode cL_mostReviews 3 = .ok (.iload_n 1, 1) := by decide +kernel
theorem dL_mostReviews_4 : decode cL_mostReviews 4 = .ok (.invokevirtual 61, 3) := by decide +kernel
theorem dL_mostReviews_7 : decode cL_mostReviews 7 = .ok (.i2l, 1) := by decide +kernel
theorem dL_mostReviews_8 : decode cL_mostReviews 8 = .ok (.lastore, 1) := by decide +kernel
theorem dL_mostReviews_9 : decode cL_mostReviews 9 = .ok (.goto 6, 3) := by decide +kernel
theorem dL_mostReviews_12 : decode cL_mostReviews 12 = .ok (.astore_n 3, 1) := by decide +kernel
theorem dL_mostReviews_13 : decode cL_mostReviews 13 = .ok (.iconst 1, 1) := by decide +kernel
theorem dL_mostReviews_14 : decode cL_mostReviews 14 = .ok (.ireturn, 1) := by decide +kernel
theorem dL_mostReviews_15 : decode cL_mostReviews 15 = .ok (.iconst 0, 1) := by decide +kernel
theorem dL_mostReviews_16 : decode cL_mostReviews 16 = .ok (.ireturn, 1) := by decide +kernel
theorem dL_bestMatchSum_0 : decode cL_bestMatchSum 0 = .ok (.aload_n 2, 1) := by decide +kernel
theorem dL_bestMatchSum_1 : decode cL_bestMatchSum 1 = .ok (.iconst 0, 1) := by decide +kernel
theorem dL_bestMatchSum_2 : decode cL_bestMatchSum 2 = .ok (.aload_n 0, 1) := by decide +kernel
theorem dL_bestMatchSum_3 : decode cL_bestMatchSum 3 = .ok (.iload_n 1, 1) := by decide +kernel
theorem dL_bestMatchSum_4 : decode cL_bestMatchSum 4 = .ok (.invokevirtual 64, 3) := by decide +kernel
theorem dL_bestMatchSum_7 : decode cL_bestMatchSum 7 = .ok (.i2l, 1) := by decide +kernel
theorem dL_bestMatchSum_8 : decode cL_bestMatchSum 8 = .ok (.lastore, 1) := by decide +kernel
theorem dL_bestMatchSum_9 : decode cL_bestMatchSum 9 = .ok (.goto 6, 3) := by decide +kernel
theorem dL_bestMatchSum_12 : decode cL_bestMatchSum 12 = .ok (.astore_n 3, 1) := by decide +kernel
theorem dL_bestMatchSum_13 : decode cL_bestMatchSum 13 = .ok (.iconst 1, 1) := by decide +kernel
theorem dL_bestMatchSum_14 : decode cL_bestMatchSum 14 = .ok (.ireturn, 1) := by decide +kernel
theorem dL_bestMatchSum_15 : decode cL_bestMatchSum 15 = .ok (.iconst 0, 1) := by decide +kernel
theorem dL_bestMatchSum_16 : decode cL_bestMatchSum 16 = .ok (.ireturn, 1) := by decide +kernel
theorem dL_setScore_0 : decode cL_setScore 0 = .ok (.aload 4, 2) := by decide +kernel
theorem dL_setScore_2 : decode cL_setScore 2 = .ok (.iconst 0, 1) := by decide +kernel
theorem dL_setScore_3 : decode cL_setScore 3 = .ok (.aload_n 0, 1) := by decide +kernel
theorem dL_setScore_4 : decode cL_setScore 4 = .ok (.iload_n 1, 1) := by decide +kernel
theorem dL_setScore_5 : decode cL_setScore 5 = .ok (.iload_n 2, 1) := by decide +kernel
theorem dL_setScore_6 : decode cL_setScore 6 = .ok (.iload_n 3, 1) := by decide +kernel
theorem dL_setScore_7 : decode cL_setScore 7 = .ok (.invokevirtual 67, 3) := by decide +kernel
theorem dL_setScore_10 : decode cL_setScore 10 = .ok (.i2l, 1) := by decide +kernel
theorem dL_setScore_11 : decode cL_setScore 11 = .ok (.lastore, 1) := by decide +kernel
theorem dL_setScore_12 : decode cL_setScore 12 = .ok (.goto 15, 3) := by decide +kernel
theorem dL_setScore_15 : decode cL_setScore 15 = .ok (.astore 5, 2) := by decide +kernel
theorem dL_setScore_17 : decode cL_setScore 17 = .ok (.iconst 1, 1) := by decide +kernel
theorem dL_setScore_18 : decode cL_setScore 18 = .ok (.ireturn, 1) := by decide +kernel
theorem dL_setScore_19 : decode cL_setScore 19 = .ok (.astore 5, 2) := by decide +kernel
theorem dL_setScore_21 : decode cL_setScore 21 = .ok (.iconst 2, 1) := by decide +kernel
theorem dL_setScore_22 : decode cL_setScore 22 = .ok (.ireturn, 1) := by decide +kernel
theorem dL_setScore_23 : decode cL_setScore 23 = .ok (.astore 5, 2) := by decide +kernel
theorem dL_setScore_25 : decode cL_setScore 25 = .ok (.iconst 3, 1) := by decide +kernel
theorem dL_setScore_26 : decode cL_setScore 26 = .ok (.ireturn, 1) := by decide +kernel
theorem dL_setScore_27 : decode cL_setScore 27 = .ok (.iconst 0, 1) := by decide +kernel
theorem dL_setScore_28 : decode cL_setScore 28 = .ok (.ireturn, 1) := by decide +kernel
theorem dL_adjusted_0 : decode cL_adjusted 0 = .ok (.aload_n 3, 1) := by decide +kernel
theorem dL_adjusted_1 : decode cL_adjusted 1 = .ok (.iconst 0, 1) := by decide +kernel
theorem dL_adjusted_2 : decode cL_adjusted 2 = .ok (.aload_n 0, 1) := by decide +kernel
theorem dL_adjusted_3 : decode cL_adjusted 3 = .ok (.iload_n 1, 1) := by decide +kernel
theorem dL_adjusted_4 : decode cL_adjusted 4 = .ok (.iload_n 2, 1) := by decide +kernel
theorem dL_adjusted_5 : decode cL_adjusted 5 = .ok (.invokevirtual 71, 3) := by decide +kernel
theorem dL_adjusted_8 : decode cL_adjusted 8 = .ok (.i2l, 1) := by decide +kernel
theorem dL_adjusted_9 : decode cL_adjusted 9 = .ok (.lastore, 1) := by decide +kernel
theorem dL_adjusted_10 : decode cL_adjusted 10 = .ok (.goto 11, 3) := by decide +kernel
theorem dL_adjusted_13 : decode cL_adjusted 13 = .ok (.astore 4, 2) := by decide +kernel
theorem dL_adjusted_15 : decode cL_adjusted 15 = .ok (.iconst 1, 1) := by decide +kernel
theorem dL_adjusted_16 : decode cL_adjusted 16 = .ok (.ireturn, 1) := by decide +kernel
theorem dL_adjusted_17 : decode cL_adjusted 17 = .ok (.astore 4, 2) := by decide +kernel
theorem dL_adjusted_19 : decode cL_adjusted 19 = .ok (.iconst 2, 1) := by decide +kernel
theorem dL_adjusted_20 : decode cL_adjusted 20 = .ok (.ireturn, 1) := by decide +kernel
theorem dL_adjusted_21 : decode cL_adjusted 21 = .ok (.iconst 0, 1) := by decide +kernel
theorem dL_adjusted_22 : decode cL_adjusted 22 = .ok (.ireturn, 1) := by decide +kernel
theorem dL_normalized_0 : decode cL_normalized 0 = .ok (.aload_n 2, 1) := by decide +kernel
theorem dL_normalized_1 : decode cL_normalized 1 = .ok (.iconst 0, 1) := by decide +kernel
theorem dL_normalized_2 : decode cL_normalized 2 = .ok (.aload_n 0, 1) := by decide +kernel
theorem dL_normalized_3 : decode cL_normalized 3 = .ok (.iload_n 1, 1) := by decide +kernel
theorem dL_normalized_4 : decode cL_normalized 4 = .ok (.invokevirtual 74, 3) := by decide +kernel
theorem dL_normalized_7 : decode cL_normalized 7 = .ok (.i2l, 1) := by decide +kernel
theorem dL_normalized_8 : decode cL_normalized 8 = .ok (.lastore, 1) := by decide +kernel
theorem dL_normalized_9 : decode cL_normalized 9 = .ok (.goto 9, 3) := by decide +kernel
theorem dL_normalized_12 : decode cL_normalized 12 = .ok (.astore_n 3, 1) := by decide +kernel
theorem dL_normalized_13 : decode cL_normalized 13 = .ok (.iconst 1, 1) := by decide +kernel
theorem dL_normalized_14 : decode cL_normalized 14 = .ok (.ireturn, 1) := by decide +kernel
theorem dL_normalized_15 : decode cL_normalized 15 = .ok (.astore_n 3, 1) := by decide +kernel
theorem dL_normalized_16 : decode cL_normalized 16 = .ok (.iconst 2, 1) := by decide +kernel
theorem dL_normalized_17 : decode cL_normalized 17 = .ok (.ireturn, 1) := by decide +kernel
theorem dL_normalized_18 : decode cL_normalized 18 = .ok (.iconst 0, 1) := by decide +kernel
theorem dL_normalized_19 : decode cL_normalized 19 = .ok (.ireturn, 1) := by decide +kernel
theorem dL_leniency_0 : decode cL_leniency 0 = .ok (.aload_n 2, 1) := by decide +kernel
theorem dL_leniency_1 : decode cL_leniency 1 = .ok (.iconst 0, 1) := by decide +kernel
theorem dL_leniency_2 : decode cL_leniency 2 = .ok (.aload_n 0, 1) := by decide +kernel
theorem dL_leniency_3 : decode cL_leniency 3 = .ok (.iload_n 1, 1) := by decide +kernel
theorem dL_leniency_4 : decode cL_leniency 4 = .ok (.invokevirtual 77, 3) := by decide +kernel
theorem dL_leniency_7 : decode cL_leniency 7 = .ok (.dastore, 1) := by decide +kernel
theorem dL_leniency_8 : decode cL_leniency 8 = .ok (.goto 9, 3) := by decide +kernel
theorem dL_leniency_11 : decode cL_leniency 11 = .ok (.astore_n 3, 1) := by decide +kernel
theorem dL_leniency_12 : decode cL_leniency 12 = .ok (.iconst 1, 1) := by decide +kernel
theorem dL_leniency_13 : decode cL_leniency 13 = .ok (.ireturn, 1) := by decide +kernel
theorem dL_leniency_14 : decode cL_leniency 14 = .ok (.astore_n 3, 1) := by decide +kernel
theorem dL_leniency_15 : decode cL_leniency 15 = .ok (.iconst 2, 1) := by decide +kernel
theorem dL_leniency_16 : decode cL_leniency 16 = .ok (.ireturn, 1) := by decide +kernel
theorem dL_leniency_17 : decode cL_leniency 17 = .ok (.iconst 0, 1) := by decide +kernel
theorem dL_leniency_18 : decode cL_leniency 18 = .ok (.ireturn, 1) := by decide +kernel
theorem dL_disagreement_0 : decode cL_disagreement 0 = .ok (.aload_n 2, 1) := by decide +kernel
theorem dL_disagreement_1 : decode cL_disagreement 1 = .ok (.iconst 0, 1) := by decide +kernel
theorem dL_disagreement_2 : decode cL_disagreement 2 = .ok (.aload_n 0, 1) := by decide +kernel
theorem dL_disagreement_3 : decode cL_disagreement 3 = .ok (.iload_n 1, 1) := by decide +kernel
theorem dL_disagreement_4 : decode cL_disagreement 4 = .ok (.invokevirtual 81, 3) := by decide +kernel
theorem dL_disagreement_7 : decode cL_disagreement 7 = .ok (.dastore, 1) := by decide +kernel
theorem dL_disagreement_8 : decode cL_disagreement 8 = .ok (.goto 9, 3) := by decide +kernel
theorem dL_disagreement_11 : decode cL_disagreement 11 = .ok (.astore_n 3, 1) := by decide +kernel
theorem dL_disagreement_12 : decode cL_disagreement 12 = .ok (.iconst 1, 1) := by decide +kernel
theorem dL_disagreement_13 : decode cL_disagreement 13 = .ok (.ireturn, 1) := by decide +kernel
theorem dL_disagreement_14 : decode cL_disagreement 14 = .ok (.astore_n 3, 1) := by decide +kernel
theorem dL_disagreement_15 : decode cL_disagreement 15 = .ok (.iconst 2, 1) := by decide +kernel
theorem dL_disagreement_16 : decode cL_disagreement 16 = .ok (.ireturn, 1) := by decide +kernel
theorem dL_disagreement_17 : decode cL_disagreement 17 = .ok (.iconst 0, 1) := by decide +kernel
theorem dL_disagreement_18 : decode cL_disagreement 18 = .ok (.ireturn, 1) := by decide +kernel
theorem dL_rank_0 : decode cL_rank 0 = .ok (.aload_n 2, 1) := by decide +kernel
theorem dL_rank_1 : decode cL_rank 1 = .ok (.iconst 0, 1) := by decide +kernel
theorem dL_rank_2 : decode cL_rank 2 = .ok (.aload_n 0, 1) := by decide +kernel
theorem dL_rank_3 : decode cL_rank 3 = .ok (.iload_n 1, 1) := by decide +kernel
theorem dL_rank_4 : decode cL_rank 4 = .ok (.invokevirtual 84, 3) := by decide +kernel
theorem dL_rank_7 : decode cL_rank 7 = .ok (.i2l, 1) := by decide +kernel
theorem dL_rank_8 : decode cL_rank 8 = .ok (.lastore, 1) := by decide +kernel
theorem dL_rank_9 : decode cL_rank 9 = .ok (.goto 9, 3) := by decide +kernel
theorem dL_rank_12 : decode cL_rank 12 = .ok (.astore_n 3, 1) := by decide +kernel
theorem dL_rank_13 : decode cL_rank 13 = .ok (.iconst 1, 1) := by decide +kernel
theorem dL_rank_14 : decode cL_rank 14 = .ok (.ireturn, 1) := by decide +kernel
theorem dL_rank_15 : decode cL_rank 15 = .ok (.astore_n 3, 1) := by decide +kernel
theorem dL_rank_16 : decode cL_rank 16 = .ok (.iconst 2, 1) := by decide +kernel
theorem dL_rank_17 : decode cL_rank 17 = .ok (.ireturn, 1) := by decide +kernel
theorem dL_rank_18 : decode cL_rank 18 = .ok (.iconst 0, 1) := by decide +kernel
theorem dL_rank_19 : decode cL_rank 19 = .ok (.ireturn, 1) := by decide +kernel
theorem dL_ranked_0 : decode cL_ranked 0 = .ok (.aload_n 3, 1) := by decide +kernel
theorem dL_ranked_1 : decode cL_ranked 1 = .ok (.iconst 0, 1) := by decide +kernel
theorem dL_ranked_2 : decode cL_ranked 2 = .ok (.aload_n 0, 1) := by decide +kernel
theorem dL_ranked_3 : decode cL_ranked 3 = .ok (.iload_n 1, 1) := by decide +kernel
theorem dL_ranked_4 : decode cL_ranked 4 = .ok (.iload_n 2, 1) := by decide +kernel
theorem dL_ranked_5 : decode cL_ranked 5 = .ok (.invokevirtual 87, 3) := by decide +kernel
theorem dL_ranked_8 : decode cL_ranked 8 = .ok (.i2l, 1) := by decide +kernel
theorem dL_ranked_9 : decode cL_ranked 9 = .ok (.lastore, 1) := by decide +kernel
theorem dL_ranked_10 : decode cL_ranked 10 = .ok (.goto 7, 3) := by decide +kernel
theorem dL_ranked_13 : decode cL_ranked 13 = .ok (.astore 4, 2) := by decide +kernel
theorem dL_ranked_15 : decode cL_ranked 15 = .ok (.iconst 1, 1) := by decide +kernel
theorem dL_ranked_16 : decode cL_ranked 16 = .ok (.ireturn, 1) := by decide +kernel
theorem dL_ranked_17 : decode cL_ranked 17 = .ok (.iconst 0, 1) := by decide +kernel
theorem dL_ranked_18 : decode cL_ranked 18 = .ok (.ireturn, 1) := by decide +kernel
theorem dL_tieRound_0 : decode cL_tieRound 0 = .ok (.aload_n 3, 1) := by decide +kernel
theorem dL_tieRound_1 : decode cL_tieRound 1 = .ok (.iconst 0, 1) := by decide +kernel
theorem dL_tieRound_2 : decode cL_tieRound 2 = .ok (.aload_n 0, 1) := by decide +kernel
theorem dL_tieRound_3 : decode cL_tieRound 3 = .ok (.iload_n 1, 1) := by decide +kernel
theorem dL_tieRound_4 : decode cL_tieRound 4 = .ok (.iload_n 2, 1) := by decide +kernel
theorem dL_tieRound_5 : decode cL_tieRound 5 = .ok (.invokevirtual 90, 3) := by decide +kernel
theorem dL_tieRound_8 : decode cL_tieRound 8 = .ok (.i2l, 1) := by decide +kernel
theorem dL_tieRound_9 : decode cL_tieRound 9 = .ok (.lastore, 1) := by decide +kernel
theorem dL_tieRound_10 : decode cL_tieRound 10 = .ok (.goto 15, 3) := by decide +kernel
theorem dL_tieRound_13 : decode cL_tieRound 13 = .ok (.astore 4, 2) := by decide +kernel
theorem dL_tieRound_15 : decode cL_tieRound 15 = .ok (.iconst 1, 1) := by decide +kernel
theorem dL_tieRound_16 : decode cL_tieRound 16 = .ok (.ireturn, 1) := by decide +kernel
theorem dL_tieRound_17 : decode cL_tieRound 17 = .ok (.astore 4, 2) := by decide +kernel
theorem dL_tieRound_19 : decode cL_tieRound 19 = .ok (.iconst 2, 1) := by decide +kernel
theorem dL_tieRound_20 : decode cL_tieRound 20 = .ok (.ireturn, 1) := by decide +kernel
theorem dL_tieRound_21 : decode cL_tieRound 21 = .ok (.astore 4, 2) := by decide +kernel
theorem dL_tieRound_23 : decode cL_tieRound 23 = .ok (.iconst 3, 1) := by decide +kernel
theorem dL_tieRound_24 : decode cL_tieRound 24 = .ok (.ireturn, 1) := by decide +kernel
theorem dL_tieRound_25 : decode cL_tieRound 25 = .ok (.iconst 0, 1) := by decide +kernel
theorem dL_tieRound_26 : decode cL_tieRound 26 = .ok (.ireturn, 1) := by decide +kernel
theorem dL_setLine_0 : decode cL_setLine 0 = .ok (.aload_n 2, 1) := by decide +kernel
theorem dL_setLine_1 : decode cL_setLine 1 = .ok (.iconst 0, 1) := by decide +kernel
theorem dL_setLine_2 : decode cL_setLine 2 = .ok (.aload_n 0, 1) := by decide +kernel
theorem dL_setLine_3 : decode cL_setLine 3 = .ok (.iload_n 1, 1) := by decide +kernel
theorem dL_setLine_4 : decode cL_setLine 4 = .ok (.invokevirtual 93, 3) := by decide +kernel
theorem dL_setLine_7 : decode cL_setLine 7 = .ok (.i2l, 1) := by decide +kernel
theorem dL_setLine_8 : decode cL_setLine 8 = .ok (.lastore, 1) := by decide +kernel
theorem dL_setLine_9 : decode cL_setLine 9 = .ok (.goto 6, 3) := by decide +kernel
theorem dL_setLine_12 : decode cL_setLine 12 = .ok (.astore_n 3, 1) := by decide +kernel
theorem dL_setLine_13 : decode cL_setLine 13 = .ok (.iconst 1, 1) := by decide +kernel
theorem dL_setLine_14 : decode cL_setLine 14 = .ok (.ireturn, 1) := by decide +kernel
theorem dL_setLine_15 : decode cL_setLine 15 = .ok (.iconst 0, 1) := by decide +kernel
theorem dL_setLine_16 : decode cL_setLine 16 = .ok (.ireturn, 1) := by decide +kernel
theorem dL_amount_0 : decode cL_amount 0 = .ok (.aload_n 3, 1) := by decide +kernel
theorem dL_amount_1 : decode cL_amount 1 = .ok (.iconst 0, 1) := by decide +kernel
theorem dL_amount_2 : decode cL_amount 2 = .ok (.aload_n 0, 1) := by decide +kernel
theorem dL_amount_3 : decode cL_amount 3 = .ok (.iload_n 1, 1) := by decide +kernel
theorem dL_amount_4 : decode cL_amount 4 = .ok (.iload_n 2, 1) := by decide +kernel
theorem dL_amount_5 : decode cL_amount 5 = .ok (.invokevirtual 96, 3) := by decide +kernel
theorem dL_amount_8 : decode cL_amount 8 = .ok (.i2l, 1) := by decide +kernel
theorem dL_amount_9 : decode cL_amount 9 = .ok (.lastore, 1) := by decide +kernel
theorem dL_amount_10 : decode cL_amount 10 = .ok (.goto 11, 3) := by decide +kernel
theorem dL_amount_13 : decode cL_amount 13 = .ok (.astore 4, 2) := by decide +kernel
theorem dL_amount_15 : decode cL_amount 15 = .ok (.iconst 1, 1) := by decide +kernel
theorem dL_amount_16 : decode cL_amount 16 = .ok (.ireturn, 1) := by decide +kernel
theorem dL_amount_17 : decode cL_amount 17 = .ok (.astore 4, 2) := by decide +kernel
theorem dL_amount_19 : decode cL_amount 19 = .ok (.iconst 2, 1) := by decide +kernel
theorem dL_amount_20 : decode cL_amount 20 = .ok (.ireturn, 1) := by decide +kernel
theorem dL_amount_21 : decode cL_amount 21 = .ok (.iconst 0, 1) := by decide +kernel
theorem dL_amount_22 : decode cL_amount 22 = .ok (.ireturn, 1) := by decide +kernel
theorem dL_left_0 : decode cL_left 0 = .ok (.aload_n 3, 1) := by decide +kernel
theorem dL_left_1 : decode cL_left 1 = .ok (.iconst 0, 1) := by decide +kernel
theorem dL_left_2 : decode cL_left 2 = .ok (.aload_n 0, 1) := by decide +kernel
theorem dL_left_3 : decode cL_left 3 = .ok (.iload_n 1, 1) := by decide +kernel
theorem dL_left_4 : decode cL_left 4 = .ok (.iload_n 2, 1) := by decide +kernel
theorem dL_left_5 : decode cL_left 5 = .ok (.invokevirtual 99, 3) := by decide +kernel
theorem dL_left_8 : decode cL_left 8 = .ok (.i2l, 1) := by decide +kernel
theorem dL_left_9 : decode cL_left 9 = .ok (.lastore, 1) := by decide +kernel
theorem dL_left_10 : decode cL_left 10 = .ok (.goto 11, 3) := by decide +kernel
theorem dL_left_13 : decode cL_left 13 = .ok (.astore 4, 2) := by decide +kernel
theorem dL_left_15 : decode cL_left 15 = .ok (.iconst 1, 1) := by decide +kernel
theorem dL_left_16 : decode cL_left 16 = .ok (.ireturn, 1) := by decide +kernel
theorem dL_left_17 : decode cL_left 17 = .ok (.astore 4, 2) := by decide +kernel
theorem dL_left_19 : decode cL_left 19 = .ok (.iconst 2, 1) := by decide +kernel
theorem dL_left_20 : decode cL_left 20 = .ok (.ireturn, 1) := by decide +kernel
theorem dL_left_21 : decode cL_left 21 = .ok (.iconst 0, 1) := by decide +kernel
theorem dL_left_22 : decode cL_left 22 = .ok (.ireturn, 1) := by decide +kernel
theorem dL_poolLeft_0 : decode cL_poolLeft 0 = .ok (.aload_n 2, 1) := by decide +kernel
theorem dL_poolLeft_1 : decode cL_poolLeft 1 = .ok (.iconst 0, 1) := by decide +kernel
theorem dL_poolLeft_2 : decode cL_poolLeft 2 = .ok (.aload_n 0, 1) := by decide +kernel
theorem dL_poolLeft_3 : decode cL_poolLeft 3 = .ok (.iload_n 1, 1) := by decide +kernel
theorem dL_poolLeft_4 : decode cL_poolLeft 4 = .ok (.invokevirtual 102, 3) := by decide +kernel
theorem dL_poolLeft_7 : decode cL_poolLeft 7 = .ok (.i2l, 1) := by decide +kernel
theorem dL_poolLeft_8 : decode cL_poolLeft 8 = .ok (.lastore, 1) := by decide +kernel
theorem dL_poolLeft_9 : decode cL_poolLeft 9 = .ok (.goto 6, 3) := by decide +kernel
theorem dL_poolLeft_12 : decode cL_poolLeft 12 = .ok (.astore_n 3, 1) := by decide +kernel
theorem dL_poolLeft_13 : decode cL_poolLeft 13 = .ok (.iconst 1, 1) := by decide +kernel
theorem dL_poolLeft_14 : decode cL_poolLeft 14 = .ok (.ireturn, 1) := by decide +kernel
theorem dL_poolLeft_15 : decode cL_poolLeft 15 = .ok (.iconst 0, 1) := by decide +kernel
theorem dL_poolLeft_16 : decode cL_poolLeft 16 = .ok (.ireturn, 1) := by decide +kernel
theorem dL_funded_0 : decode cL_funded 0 = .ok (.aload_n 2, 1) := by decide +kernel
theorem dL_funded_1 : decode cL_funded 1 = .ok (.iconst 0, 1) := by decide +kernel
theorem dL_funded_2 : decode cL_funded 2 = .ok (.aload_n 0, 1) := by decide +kernel
theorem dL_funded_3 : decode cL_funded 3 = .ok (.iload_n 1, 1) := by decide +kernel
theorem dL_funded_4 : decode cL_funded 4 = .ok (.invokevirtual 105, 3) := by decide +kernel
theorem dL_funded_7 : decode cL_funded 7 = .ok (.i2l, 1) := by decide +kernel
theorem dL_funded_8 : decode cL_funded 8 = .ok (.lastore, 1) := by decide +kernel
theorem dL_funded_9 : decode cL_funded 9 = .ok (.goto 6, 3) := by decide +kernel
theorem dL_funded_12 : decode cL_funded 12 = .ok (.astore_n 3, 1) := by decide +kernel
theorem dL_funded_13 : decode cL_funded 13 = .ok (.iconst 1, 1) := by decide +kernel
theorem dL_funded_14 : decode cL_funded 14 = .ok (.ireturn, 1) := by decide +kernel
theorem dL_funded_15 : decode cL_funded 15 = .ok (.iconst 0, 1) := by decide +kernel
theorem dL_funded_16 : decode cL_funded 16 = .ok (.ireturn, 1) := by decide +kernel
theorem dL_bestSum_0 : decode cL_bestSum 0 = .ok (.aload_n 2, 1) := by decide +kernel
theorem dL_bestSum_1 : decode cL_bestSum 1 = .ok (.iconst 0, 1) := by decide +kernel
theorem dL_bestSum_2 : decode cL_bestSum 2 = .ok (.aload_n 0, 1) := by decide +kernel
theorem dL_bestSum_3 : decode cL_bestSum 3 = .ok (.iload_n 1, 1) := by decide +kernel
theorem dL_bestSum_4 : decode cL_bestSum 4 = .ok (.invokevirtual 108, 3) := by decide +kernel
theorem dL_bestSum_7 : decode cL_bestSum 7 = .ok (.i2l, 1) := by decide +kernel
theorem dL_bestSum_8 : decode cL_bestSum 8 = .ok (.lastore, 1) := by decide +kernel
theorem dL_bestSum_9 : decode cL_bestSum 9 = .ok (.goto 6, 3) := by decide +kernel
theorem dL_bestSum_12 : decode cL_bestSum 12 = .ok (.astore_n 3, 1) := by decide +kernel
theorem dL_bestSum_13 : decode cL_bestSum 13 = .ok (.iconst 1, 1) := by decide +kernel
theorem dL_bestSum_14 : decode cL_bestSum 14 = .ok (.ireturn, 1) := by decide +kernel
theorem dL_bestSum_15 : decode cL_bestSum 15 = .ok (.iconst 0, 1) := by decide +kernel
theorem dL_bestSum_16 : decode cL_bestSum 16 = .ok (.ireturn, 1) := by decide +kernel
theorem dL_lineFor_0 : decode cL_lineFor 0 = .ok (.aload_n 3, 1) := by decide +kernel
theorem dL_lineFor_1 : decode cL_lineFor 1 = .ok (.iconst 0, 1) := by decide +kernel
theorem dL_lineFor_2 : decode cL_lineFor 2 = .ok (.aload_n 0, 1) := by decide +kernel
theorem dL_lineFor_3 : decode cL_lineFor 3 = .ok (.iload_n 1, 1) := by decide +kernel
theorem dL_lineFor_4 : decode cL_lineFor 4 = .ok (.iload_n 2, 1) := by decide +kernel
theorem dL_lineFor_5 : decode cL_lineFor 5 = .ok (.invokevirtual 111, 3) := by decide +kernel
theorem dL_lineFor_8 : decode cL_lineFor 8 = .ok (.i2l, 1) := by decide +kernel
theorem dL_lineFor_9 : decode cL_lineFor 9 = .ok (.lastore, 1) := by decide +kernel
theorem dL_lineFor_10 : decode cL_lineFor 10 = .ok (.goto 7, 3) := by decide +kernel
theorem dL_lineFor_13 : decode cL_lineFor 13 = .ok (.astore 4, 2) := by decide +kernel
theorem dL_lineFor_15 : decode cL_lineFor 15 = .ok (.iconst 1, 1) := by decide +kernel
theorem dL_lineFor_16 : decode cL_lineFor 16 = .ok (.ireturn, 1) := by decide +kernel
theorem dL_lineFor_17 : decode cL_lineFor 17 = .ok (.iconst 0, 1) := by decide +kernel
theorem dL_lineFor_18 : decode cL_lineFor 18 = .ok (.ireturn, 1) := by decide +kernel
theorem dL_appeal_0 : decode cL_appeal 0 = .ok (.aload_n 3, 1) := by decide +kernel
theorem dL_appeal_1 : decode cL_appeal 1 = .ok (.iconst 0, 1) := by decide +kernel
theorem dL_appeal_2 : decode cL_appeal 2 = .ok (.aload_n 0, 1) := by decide +kernel
theorem dL_appeal_3 : decode cL_appeal 3 = .ok (.iload_n 1, 1) := by decide +kernel
theorem dL_appeal_4 : decode cL_appeal 4 = .ok (.iload_n 2, 1) := by decide +kernel
theorem dL_appeal_5 : decode cL_appeal 5 = .ok (.invokevirtual 114, 3) := by decide +kernel
theorem dL_appeal_8 : decode cL_appeal 8 = .ok (.ifCond .eq 7, 3) := by decide +kernel
theorem dL_appeal_11 : decode cL_appeal 11 = .ok (.lconst 1, 1) := by decide +kernel
theorem dL_appeal_12 : decode cL_appeal 12 = .ok (.goto 4, 3) := by decide +kernel
theorem dL_appeal_15 : decode cL_appeal 15 = .ok (.lconst 0, 1) := by decide +kernel
theorem dL_appeal_16 : decode cL_appeal 16 = .ok (.lastore, 1) := by decide +kernel
theorem dL_appeal_17 : decode cL_appeal 17 = .ok (.goto 15, 3) := by decide +kernel
theorem dL_appeal_20 : decode cL_appeal 20 = .ok (.astore 4, 2) := by decide +kernel
theorem dL_appeal_22 : decode cL_appeal 22 = .ok (.iconst 1, 1) := by decide +kernel
theorem dL_appeal_23 : decode cL_appeal 23 = .ok (.ireturn, 1) := by decide +kernel
theorem dL_appeal_24 : decode cL_appeal 24 = .ok (.astore 4, 2) := by decide +kernel
theorem dL_appeal_26 : decode cL_appeal 26 = .ok (.iconst 2, 1) := by decide +kernel
theorem dL_appeal_27 : decode cL_appeal 27 = .ok (.ireturn, 1) := by decide +kernel
theorem dL_appeal_28 : decode cL_appeal 28 = .ok (.astore 4, 2) := by decide +kernel
theorem dL_appeal_30 : decode cL_appeal 30 = .ok (.iconst 3, 1) := by decide +kernel
theorem dL_appeal_31 : decode cL_appeal 31 = .ok (.ireturn, 1) := by decide +kernel
theorem dL_appeal_32 : decode cL_appeal 32 = .ok (.iconst 0, 1) := by decide +kernel
theorem dL_appeal_33 : decode cL_appeal 33 = .ok (.ireturn, 1) := by decide +kernel
theorem dL_undo_0 : decode cL_undo 0 = .ok (.aload_n 1, 1) := by decide +kernel
theorem dL_undo_1 : decode cL_undo 1 = .ok (.iconst 0, 1) := by decide +kernel
theorem dL_undo_2 : decode cL_undo 2 = .ok (.aload_n 0, 1) := by decide +kernel
theorem dL_undo_3 : decode cL_undo 3 = .ok (.invokevirtual 117, 3) := by decide +kernel
theorem dL_undo_6 : decode cL_undo 6 = .ok (.i2l, 1) := by decide +kernel
theorem dL_undo_7 : decode cL_undo 7 = .ok (.lastore, 1) := by decide +kernel
theorem dL_undo_8 : decode cL_undo 8 = .ok (.goto 6, 3) := by decide +kernel
theorem dL_undo_11 : decode cL_undo 11 = .ok (.astore_n 2, 1) := by decide +kernel
theorem dL_undo_12 : decode cL_undo 12 = .ok (.iconst 1, 1) := by decide +kernel
theorem dL_undo_13 : decode cL_undo 13 = .ok (.ireturn, 1) := by decide +kernel
theorem dL_undo_14 : decode cL_undo 14 = .ok (.iconst 0, 1) := by decide +kernel
theorem dL_undo_15 : decode cL_undo 15 = .ok (.ireturn, 1) := by decide +kernel
