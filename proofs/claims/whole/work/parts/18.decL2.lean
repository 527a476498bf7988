theorem dL_law_2679 : decode cL_law 2679 = .ok (.invokevirtual 308, 3) := by decide +kernel
theorem dL_law_2682 : decode cL_law 2682 = .ok (.istore 6, 2) := by decide +kernel
theorem dL_law_2684 : decode cL_law 2684 = .ok (.aload_n 2, 1) := by decide +kernel
theorem dL_law_2685 : decode cL_law 2685 = .ok (.invokevirtual 188, 3) := by decide +kernel
theorem dL_law_2688 : decode cL_law 2688 = .ok (.iload 5, 2) := by decide +kernel
theorem dL_law_2690 : decode cL_law 2690 = .ok (.if_icmp .eq 5, 3) := by decide +kernel
theorem dL_law_2693 : decode cL_law 2693 = .ok (.iconst 0, 1) := by decide +kernel
theorem dL_law_2694 : decode cL_law 2694 = .ok (.ireturn, 1) := by decide +kernel
theorem dL_law_2695 : decode cL_law 2695 = .ok (.iload 5, 2) := by decide +kernel
theorem dL_law_2697 : decode cL_law 2697 = .ok (.ifCond .ne 15, 3) := by decide +kernel
theorem dL_law_27 : decode cL_law 27 = .ok (.bipush 6, 2) := by decide +kernel
theorem dL_law_2700 : decode cL_law 2700 = .ok (.aload_n 3, 1) := by decide +kernel
theorem dL_law_2701 : decode cL_law 2701 = .ok (.iconst 0, 1) := by decide +kernel
theorem dL_law_2702 : decode cL_law 2702 = .ok (.laload, 1) := by decide +kernel
theorem dL_law_2703 : decode cL_law 2703 = .ok (.iload 6, 2) := by decide +kernel
theorem dL_law_2705 : decode cL_law 2705 = .ok (.i2l, 1) := by decide +kernel
theorem dL_law_2706 : decode cL_law 2706 = .ok (.lcmp, 1) := by decide +kernel
theorem dL_law_2707 : decode cL_law 2707 = .ok (.ifCond .eq 5, 3) := by decide +kernel
theorem dL_law_2710 : decode cL_law 2710 = .ok (.iconst 0, 1) := by decide +kernel
theorem dL_law_2711 : decode cL_law 2711 = .ok (.ireturn, 1) := by decide +kernel
theorem dL_law_2712 : decode cL_law 2712 = .ok (.goto 948, 3) := by decide +kernel
theorem dL_law_2715 : decode cL_law 2715 = .ok (.aload_n 1, 1) := by decide +kernel
theorem dL_law_2716 : decode cL_law 2716 = .ok (.aload_n 0, 1) := by decide +kernel
theorem dL_law_2717 : decode cL_law 2717 = .ok (.iload 4, 2) := by decide +kernel
theorem dL_law_2719 : decode cL_law 2719 = .ok (.iconst 1, 1) := by decide +kernel
theorem dL_law_272 : decode cL_law 272 = .ok (.aload_n 1, 1) := by decide +kernel
theorem dL_law_2720 : decode cL_law 2720 = .ok (.iadd, 1) := by decide +kernel
theorem dL_law_2721 : decode cL_law 2721 = .ok (.iaload, 1) := by decide +kernel
theorem dL_law_2722 : decode cL_law 2722 = .ok (.aload_n 0, 1) := by decide +kernel
theorem dL_law_2723 : decode cL_law 2723 = .ok (.iload 4, 2) := by decide +kernel
theorem dL_law_2725 : decode cL_law 2725 = .ok (.iconst 2, 1) := by decide +kernel
theorem dL_law_2726 : decode cL_law 2726 = .ok (.iadd, 1) := by decide +kernel
theorem dL_law_2727 : decode cL_law 2727 = .ok (.iaload, 1) := by decide +kernel
theorem dL_law_2728 : decode cL_law 2728 = .ok (.aload_n 0, 1) := by decide +kernel
theorem dL_law_2729 : decode cL_law 2729 = .ok (.iload 4, 2) := by decide +kernel
theorem dL_law_273 : decode cL_law 273 = .ok (.aload_n 0, 1) := by decide +kernel
theorem dL_law_2731 : decode cL_law 2731 = .ok (.iconst 3, 1) := by decide +kernel
theorem dL_law_2732 : decode cL_law 2732 = .ok (.iadd, 1) := by decide +kernel
theorem dL_law_2733 : decode cL_law 2733 = .ok (.iaload, 1) := by decide +kernel
theorem dL_law_2734 : decode cL_law 2734 = .ok (.aload_n 0, 1) := by decide +kernel
theorem dL_law_2735 : decode cL_law 2735 = .ok (.iload 4, 2) := by decide +kernel
theorem dL_law_2737 : decode cL_law 2737 = .ok (.iconst 4, 1) := by decide +kernel
theorem dL_law_2738 : decode cL_law 2738 = .ok (.iadd, 1) := by decide +kernel
theorem dL_law_2739 : decode cL_law 2739 = .ok (.iaload, 1) := by decide +kernel
theorem dL_law_274 : decode cL_law 274 = .ok (.iload 4, 2) := by decide +kernel
theorem dL_law_2740 : decode cL_law 2740 = .ok (.aload_n 3, 1) := by decide +kernel
theorem dL_law_2741 : decode cL_law 2741 = .ok (.invokestatic 309, 3) := by decide +kernel
theorem dL_law_2744 : decode cL_law 2744 = .ok (.istore 5, 2) := by decide +kernel
theorem dL_law_2746 : decode cL_law 2746 = .ok (.aload_n 2, 1) := by decide +kernel
theorem dL_law_2747 : decode cL_law 2747 = .ok (.aload_n 0, 1) := by decide +kernel
theorem dL_law_2748 : decode cL_law 2748 = .ok (.iload 4, 2) := by decide +kernel
theorem dL_law_2750 : decode cL_law 2750 = .ok (.iconst 1, 1) := by decide +kernel
theorem dL_law_2751 : decode cL_law 2751 = .ok (.iadd, 1) := by decide +kernel
theorem dL_law_2752 : decode cL_law 2752 = .ok (.iaload, 1) := by decide +kernel
theorem dL_law_2753 : decode cL_law 2753 = .ok (.aload_n 0, 1) := by decide +kernel
theorem dL_law_2754 : decode cL_law 2754 = .ok (.iload 4, 2) := by decide +kernel
theorem dL_law_2756 : decode cL_law 2756 = .ok (.iconst 2, 1) := by decide +kernel
theorem dL_law_2757 : decode cL_law 2757 = .ok (.iadd, 1) := by decide +kernel
theorem dL_law_2758 : decode cL_law 2758 = .ok (.iaload, 1) := by decide +kernel
theorem dL_law_2759 : decode cL_law 2759 = .ok (.aload_n 0, 1) := by decide +kernel
theorem dL_law_276 : decode cL_law 276 = .ok (.iconst 1, 1) := by decide +kernel
theorem dL_law_2760 : decode cL_law 2760 = .ok (.iload 4, 2) := by decide +kernel
theorem dL_law_2762 : decode cL_law 2762 = .ok (.iconst 3, 1) := by decide +kernel
theorem dL_law_2763 : decode cL_law 2763 = .ok (.iadd, 1) := by decide +kernel
theorem dL_law_2764 : decode cL_law 2764 = .ok (.iaload, 1) := by decide +kernel
theorem dL_law_2765 : decode cL_law 2765 = .ok (.aload_n 0, 1) := by decide +kernel
theorem dL_law_2766 : decode cL_law 2766 = .ok (.iload 4, 2) := by decide +kernel
theorem dL_law_2768 : decode cL_law 2768 = .ok (.iconst 4, 1) := by decide +kernel
theorem dL_law_2769 : decode cL_law 2769 = .ok (.iadd, 1) := by decide +kernel
theorem dL_law_277 : decode cL_law 277 = .ok (.iadd, 1) := by decide +kernel
theorem dL_law_2770 : decode cL_law 2770 = .ok (.iaload, 1) := by decide +kernel
theorem dL_law_2771 : decode cL_law 2771 = .ok (.invokevirtual 312, 3) := by decide +kernel
theorem dL_law_2774 : decode cL_law 2774 = .ok (.istore 6, 2) := by decide +kernel
theorem dL_law_2776 : decode cL_law 2776 = .ok (.aload_n 2, 1) := by decide +kernel
theorem dL_law_2777 : decode cL_law 2777 = .ok (.invokevirtual 188, 3) := by decide +kernel
theorem dL_law_278 : decode cL_law 278 = .ok (.iaload, 1) := by decide +kernel
theorem dL_law_2780 : decode cL_law 2780 = .ok (.iload 5, 2) := by decide +kernel
theorem dL_law_2782 : decode cL_law 2782 = .ok (.if_icmp .eq 5, 3) := by decide +kernel
theorem dL_law_2785 : decode cL_law 2785 = .ok (.iconst 0, 1) := by decide +kernel
theorem dL_law_2786 : decode cL_law 2786 = .ok (.ireturn, 1) := by decide +kernel
theorem dL_law_2787 : decode cL_law 2787 = .ok (.iload 5, 2) := by decide +kernel
theorem dL_law_2789 : decode cL_law 2789 = .ok (.ifCond .ne 22, 3) := by decide +kernel
theorem dL_law_279 : decode cL_law 279 = .ok (.aload_n 3, 1) := by decide +kernel
theorem dL_law_2792 : decode cL_law 2792 = .ok (.aload_n 3, 1) := by decide +kernel
theorem dL_law_2793 : decode cL_law 2793 = .ok (.iconst 0, 1) := by decide +kernel
theorem dL_law_2794 : decode cL_law 2794 = .ok (.laload, 1) := by decide +kernel
theorem dL_law_2795 : decode cL_law 2795 = .ok (.iload 6, 2) := by decide +kernel
theorem dL_law_2797 : decode cL_law 2797 = .ok (.ifCond .eq 7, 3) := by decide +kernel
theorem dL_law_280 : decode cL_law 280 = .ok (.invokestatic 182, 3) := by decide +kernel
theorem dL_law_2800 : decode cL_law 2800 = .ok (.lconst 1, 1) := by decide +kernel
theorem dL_law_2801 : decode cL_law 2801 = .ok (.goto 4, 3) := by decide +kernel
theorem dL_law_2804 : decode cL_law 2804 = .ok (.lconst 0, 1) := by decide +kernel
theorem dL_law_2805 : decode cL_law 2805 = .ok (.lcmp, 1) := by decide +kernel
theorem dL_law_2806 : decode cL_law 2806 = .ok (.ifCond .eq 5, 3) := by decide +kernel
theorem dL_law_2809 : decode cL_law 2809 = .ok (.iconst 0, 1) := by decide +kernel
theorem dL_law_2810 : decode cL_law 2810 = .ok (.ireturn, 1) := by decide +kernel
theorem dL_law_2811 : decode cL_law 2811 = .ok (.goto 849, 3) := by decide +kernel
theorem dL_law_2814 : decode cL_law 2814 = .ok (.aload_n 1, 1) := by decide +kernel
theorem dL_law_2815 : decode cL_law 2815 = .ok (.aload_n 3, 1) := by decide +kernel
theorem dL_law_2816 : decode cL_law 2816 = .ok (.invokestatic 313, 3) := by decide +kernel
theorem dL_law_2819 : decode cL_law 2819 = .ok (.istore 5, 2) := by decide +kernel
theorem dL_law_2821 : decode cL_law 2821 = .ok (.aload_n 2, 1) := by decide +kernel
theorem dL_law_2822 : decode cL_law 2822 = .ok (.invokevirtual 315, 3) := by decide +kernel
theorem dL_law_2825 : decode cL_law 2825 = .ok (.istore 6, 2) := by decide +kernel
theorem dL_law_2827 : decode cL_law 2827 = .ok (.aload_n 2, 1) := by decide +kernel
theorem dL_law_2828 : decode cL_law 2828 = .ok (.invokevirtual 188, 3) := by decide +kernel
theorem dL_law_283 : decode cL_law 283 = .ok (.istore 5, 2) := by decide +kernel
theorem dL_law_2831 : decode cL_law 2831 = .ok (.iload 5, 2) := by decide +kernel
theorem dL_law_2833 : decode cL_law 2833 = .ok (.if_icmp .eq 5, 3) := by decide +kernel
theorem dL_law_2836 : decode cL_law 2836 = .ok (.iconst 0, 1) := by decide +kernel
theorem dL_law_2837 : decode cL_law 2837 = .ok (.ireturn, 1) := by decide +kernel
theorem dL_law_2838 : decode cL_law 2838 = .ok (.iload 5, 2) := by decide +kernel
theorem dL_law_2840 : decode cL_law 2840 = .ok (.ifCond .ne 15, 3) := by decide +kernel
theorem dL_law_2843 : decode cL_law 2843 = .ok (.aload_n 3, 1) := by decide +kernel
theorem dL_law_2844 : decode cL_law 2844 = .ok (.iconst 0, 1) := by decide +kernel
theorem dL_law_2845 : decode cL_law 2845 = .ok (.laload, 1) := by decide +kernel
theorem dL_law_2846 : decode cL_law 2846 = .ok (.iload 6, 2) := by decide +kernel
theorem dL_law_2848 : decode cL_law 2848 = .ok (.i2l, 1) := by decide +kernel
theorem dL_law_2849 : decode cL_law 2849 = .ok (.lcmp, 1) := by decide +kernel
theorem dL_law_285 : decode cL_law 285 = .ok (.aload_n 2, 1) := by decide +kernel
theorem dL_law_2850 : decode cL_law 2850 = .ok (.ifCond .eq 5, 3) := by decide +kernel
theorem dL_law_2853 : decode cL_law 2853 = .ok (.iconst 0, 1) := by decide +kernel
theorem dL_law_2854 : decode cL_law 2854 = .ok (.ireturn, 1) := by decide +kernel
theorem dL_law_2855 : decode cL_law 2855 = .ok (.goto 805, 3) := by decide +kernel
theorem dL_law_2858 : decode cL_law 2858 = .ok (.aload_n 1, 1) := by decide +kernel
theorem dL_law_2859 : decode cL_law 2859 = .ok (.aload_n 0, 1) := by decide +kernel
theorem dL_law_286 : decode cL_law 286 = .ok (.aload_n 0, 1) := by decide +kernel
theorem dL_law_2860 : decode cL_law 2860 = .ok (.iload 4, 2) := by decide +kernel
theorem dL_law_2862 : decode cL_law 2862 = .ok (.iconst 1, 1) := by decide +kernel
theorem dL_law_2863 : decode cL_law 2863 = .ok (.iadd, 1) := by decide +kernel
theorem dL_law_2864 : decode cL_law 2864 = .ok (.iaload, 1) := by decide +kernel
theorem dL_law_2865 : decode cL_law 2865 = .ok (.aload_n 0, 1) := by decide +kernel
theorem dL_law_2866 : decode cL_law 2866 = .ok (.iload 4, 2) := by decide +kernel
theorem dL_law_2868 : decode cL_law 2868 = .ok (.iconst 2, 1) := by decide +kernel
theorem dL_law_2869 : decode cL_law 2869 = .ok (.iadd, 1) := by decide +kernel
theorem dL_law_287 : decode cL_law 287 = .ok (.iload 4, 2) := by decide +kernel
theorem dL_law_2870 : decode cL_law 2870 = .ok (.iaload, 1) := by decide +kernel
theorem dL_law_2871 : decode cL_law 2871 = .ok (.aload_n 0, 1) := by decide +kernel
theorem dL_law_2872 : decode cL_law 2872 = .ok (.iload 4, 2) := by decide +kernel
theorem dL_law_2874 : decode cL_law 2874 = .ok (.iconst 3, 1) := by decide +kernel
theorem dL_law_2875 : decode cL_law 2875 = .ok (.iadd, 1) := by decide +kernel
theorem dL_law_2876 : decode cL_law 2876 = .ok (.iaload, 1) := by decide +kernel
theorem dL_law_2877 : decode cL_law 2877 = .ok (.aload_n 0, 1) := by decide +kernel
theorem dL_law_2878 : decode cL_law 2878 = .ok (.iload 4, 2) := by decide +kernel
theorem dL_law_2880 : decode cL_law 2880 = .ok (.iconst 4, 1) := by decide +kernel
theorem dL_law_2881 : decode cL_law 2881 = .ok (.iadd, 1) := by decide +kernel
theorem dL_law_2882 : decode cL_law 2882 = .ok (.iaload, 1) := by decide +kernel
theorem dL_law_2883 : decode cL_law 2883 = .ok (.aload_n 0, 1) := by decide +kernel
theorem dL_law_2884 : decode cL_law 2884 = .ok (.iload 4, 2) := by decide +kernel
theorem dL_law_2886 : decode cL_law 2886 = .ok (.iconst 5, 1) := by decide +kernel
theorem dL_law_2887 : decode cL_law 2887 = .ok (.iadd, 1) := by decide +kernel
theorem dL_law_2888 : decode cL_law 2888 = .ok (.iaload, 1) := by decide +kernel
theorem dL_law_2889 : decode cL_law 2889 = .ok (.aload_n 3, 1) := by decide +kernel
theorem dL_law_289 : decode cL_law 289 = .ok (.iconst 1, 1) := by decide +kernel
theorem dL_law_2890 : decode cL_law 2890 = .ok (.invokestatic 316, 3) := by decide +kernel
theorem dL_law_2893 : decode cL_law 2893 = .ok (.istore 5, 2) := by decide +kernel
theorem dL_law_2895 : decode cL_law 2895 = .ok (.aload_n 2, 1) := by decide +kernel
theorem dL_law_2896 : decode cL_law 2896 = .ok (.aload_n 0, 1) := by decide +kernel
theorem dL_law_2897 : decode cL_law 2897 = .ok (.iload 4, 2) := by decide +kernel
theorem dL_law_2899 : decode cL_law 2899 = .ok (.iconst 1, 1) := by decide +kernel
theorem dL_law_29 : decode cL_law 29 = .ok (.isub, 1) := by decide +kernel
theorem dL_law_290 : decode cL_law 290 = .ok (.iadd, 1) := by decide +kernel
theorem dL_law_2900 : decode cL_law 2900 = .ok (.iadd, 1) := by decide +kernel
theorem dL_law_2901 : decode cL_law 2901 = .ok (.iaload, 1) := by decide +kernel
theorem dL_law_2902 : decode cL_law 2902 = .ok (.aload_n 0, 1) := by decide +kernel
theorem dL_law_2903 : decode cL_law 2903 = .ok (.iload 4, 2) := by decide +kernel
theorem dL_law_2905 : decode cL_law 2905 = .ok (.iconst 2, 1) := by decide +kernel
theorem dL_law_2906 : decode cL_law 2906 = .ok (.iadd, 1) := by decide +kernel
theorem dL_law_2907 : decode cL_law 2907 = .ok (.iaload, 1) := by decide +kernel
theorem dL_law_2908 : decode cL_law 2908 = .ok (.aload_n 0, 1) := by decide +kernel
theorem dL_law_2909 : decode cL_law 2909 = .ok (.iload 4, 2) := by decide +kernel
theorem dL_law_291 : decode cL_law 291 = .ok (.iaload, 1) := by decide +kernel
theorem dL_law_2911 : decode cL_law 2911 = .ok (.iconst 3, 1) := by decide +kernel
theorem dL_law_2912 : decode cL_law 2912 = .ok (.iadd, 1) := by decide +kernel
theorem dL_law_2913 : decode cL_law 2913 = .ok (.iaload, 1) := by decide +kernel
theorem dL_law_2914 : decode cL_law 2914 = .ok (.aload_n 0, 1) := by decide +kernel
theorem dL_law_2915 : decode cL_law 2915 = .ok (.iload 4, 2) := by decide +kernel
theorem dL_law_2917 : decode cL_law 2917 = .ok (.iconst 4, 1) := by decide +kernel
theorem dL_law_2918 : decode cL_law 2918 = .ok (.iadd, 1) := by decide +kernel
theorem dL_law_2919 : decode cL_law 2919 = .ok (.iaload, 1) := by decide +kernel
theorem dL_law_292 : decode cL_law 292 = .ok (.invokevirtual 187, 3) := by decide +kernel
theorem dL_law_2920 : decode cL_law 2920 = .ok (.aload_n 0, 1) := by decide +kernel
theorem dL_law_2921 : decode cL_law 2921 = .ok (.iload 4, 2) := by decide +kernel
theorem dL_law_2923 : decode cL_law 2923 = .ok (.iconst 5, 1) := by decide +kernel
theorem dL_law_2924 : decode cL_law 2924 = .ok (.iadd, 1) := by decide +kernel
theorem dL_law_2925 : decode cL_law 2925 = .ok (.iaload, 1) := by decide +kernel
theorem dL_law_2926 : decode cL_law 2926 = .ok (.invokevirtual 318, 3) := by decide +kernel
theorem dL_law_2929 : decode cL_law 2929 = .ok (.istore 6, 2) := by decide +kernel
theorem dL_law_2931 : decode cL_law 2931 = .ok (.aload_n 2, 1) := by decide +kernel
theorem dL_law_2932 : decode cL_law 2932 = .ok (.invokevirtual 188, 3) := by decide +kernel
theorem dL_law_2935 : decode cL_law 2935 = .ok (.iload 5, 2) := by decide +kernel
theorem dL_law_2937 : decode cL_law 2937 = .ok (.if_icmp .eq 5, 3) := by decide +kernel
theorem dL_law_2940 : decode cL_law 2940 = .ok (.iconst 0, 1) := by decide +kernel
theorem dL_law_2941 : decode cL_law 2941 = .ok (.ireturn, 1) := by decide +kernel
theorem dL_law_2942 : decode cL_law 2942 = .ok (.iload 5, 2) := by decide +kernel
theorem dL_law_2944 : decode cL_law 2944 = .ok (.ifCond .ne 15, 3) := by decide +kernel
theorem dL_law_2947 : decode cL_law 2947 = .ok (.aload_n 3, 1) := by decide +kernel
theorem dL_law_2948 : decode cL_law 2948 = .ok (.iconst 0, 1) := by decide +kernel
theorem dL_law_2949 : decode cL_law 2949 = .ok (.laload, 1) := by decide +kernel
theorem dL_law_295 : decode cL_law 295 = .ok (.istore 6, 2) := by decide +kernel
theorem dL_law_2950 : decode cL_law 2950 = .ok (.iload 6, 2) := by decide +kernel
theorem dL_law_2952 : decode cL_law 2952 = .ok (.i2l, 1) := by decide +kernel
theorem dL_law_2953 : decode cL_law 2953 = .ok (.lcmp, 1) := by decide +kernel
theorem dL_law_2954 : decode cL_law 2954 = .ok (.ifCond .eq 5, 3) := by decide +kernel
theorem dL_law_2957 : decode cL_law 2957 = .ok (.iconst 0, 1) := by decide +kernel
theorem dL_law_2958 : decode cL_law 2958 = .ok (.ireturn, 1) := by decide +kernel
theorem dL_law_2959 : decode cL_law 2959 = .ok (.goto 701, 3) := by decide +kernel
theorem dL_law_2962 : decode cL_law 2962 = .ok (.aload_n 1, 1) := by decide +kernel
theorem dL_law_2963 : decode cL_law 2963 = .ok (.aload_n 0, 1) := by decide +kernel
theorem dL_law_2964 : decode cL_law 2964 = .ok (.iload 4, 2) := by decide +kernel
theorem dL_law_2966 : decode cL_law 2966 = .ok (.iconst 1, 1) := by decide +kernel
theorem dL_law_2967 : decode cL_law 2967 = .ok (.iadd, 1) := by decide +kernel
theorem dL_law_2968 : decode cL_law 2968 = .ok (.iaload, 1) := by decide +kernel
theorem dL_law_2969 : decode cL_law 2969 = .ok (.aload_n 3, 1) := by decide +kernel
theorem dL_law_297 : decode cL_law 297 = .ok (.aload_n 2, 1) := by decide +kernel
theorem dL_law_2970 : decode cL_law 2970 = .ok (.invokestatic 319, 3) := by decide +kernel
theorem dL_law_2973 : decode cL_law 2973 = .ok (.istore 5, 2) := by decide +kernel
theorem dL_law_2975 : decode cL_law 2975 = .ok (.aload_n 2, 1) := by decide +kernel
theorem dL_law_2976 : decode cL_law 2976 = .ok (.aload_n 0, 1) := by decide +kernel
theorem dL_law_2977 : decode cL_law 2977 = .ok (.iload 4, 2) := by decide +kernel
theorem dL_law_2979 : decode cL_law 2979 = .ok (.iconst 1, 1) := by decide +kernel
theorem dL_law_298 : decode cL_law 298 = .ok (.invokevirtual 188, 3) := by decide +kernel
theorem dL_law_2980 : decode cL_law 2980 = .ok (.iadd, 1) := by decide +kernel
theorem dL_law_2981 : decode cL_law 2981 = .ok (.iaload, 1) := by decide +kernel
theorem dL_law_2982 : decode cL_law 2982 = .ok (.invokevirtual 321, 3) := by decide +kernel
theorem dL_law_2985 : decode cL_law 2985 = .ok (.istore 6, 2) := by decide +kernel
theorem dL_law_2987 : decode cL_law 2987 = .ok (.aload_n 2, 1) := by decide +kernel
theorem dL_law_2988 : decode cL_law 2988 = .ok (.invokevirtual 188, 3) := by decide +kernel
theorem dL_law_2991 : decode cL_law 2991 = .ok (.iload 5, 2) := by decide +kernel
theorem dL_law_2993 : decode cL_law 2993 = .ok (.if_icmp .eq 5, 3) := by decide +kernel
theorem dL_law_2996 : decode cL_law 2996 = .ok (.iconst 0, 1) := by decide +kernel
theorem dL_law_2997 : decode cL_law 2997 = .ok (.ireturn, 1) := by decide +kernel
theorem dL_law_2998 : decode cL_law 2998 = .ok (.iload 5, 2) := by decide +kernel
theorem dL_law_30 : decode cL_law 30 = .ok (.if_icmp .gt 3636, 3) := by decide +kernel
theorem dL_law_3000 : decode cL_law 3000 = .ok (.ifCond .ne 15, 3) := by decide +kernel
theorem dL_law_3003 : decode cL_law 3003 = .ok (.aload_n 3, 1) := by decide +kernel
theorem dL_law_3004 : decode cL_law 3004 = .ok (.iconst 0, 1) := by decide +kernel
theorem dL_law_3005 : decode cL_law 3005 = .ok (.laload, 1) := by decide +kernel
theorem dL_law_3006 : decode cL_law 3006 = .ok (.iload 6, 2) := by decide +kernel
theorem dL_law_3008 : decode cL_law 3008 = .ok (.i2l, 1) := by decide +kernel
theorem dL_law_3009 : decode cL_law 3009 = .ok (.lcmp, 1) := by decide +kernel
theorem dL_law_301 : decode cL_law 301 = .ok (.iload 5, 2) := by decide +kernel
theorem dL_law_3010 : decode cL_law 3010 = .ok (.ifCond .eq 5, 3) := by decide +kernel
theorem dL_law_3013 : decode cL_law 3013 = .ok (.iconst 0, 1) := by decide +kernel
theorem dL_law_3014 : decode cL_law 3014 = .ok (.ireturn, 1) := by decide +kernel
theorem dL_law_3015 : decode cL_law 3015 = .ok (.goto 645, 3) := by decide +kernel
theorem dL_law_3018 : decode cL_law 3018 = .ok (.aload_n 1, 1) := by decide +kernel
theorem dL_law_3019 : decode cL_law 3019 = .ok (.aload_n 0, 1) := by decide +kernel
theorem dL_law_3020 : decode cL_law 3020 = .ok (.iload 4, 2) := by decide +kernel
theorem dL_law_3022 : decode cL_law 3022 = .ok (.iconst 1, 1) := by decide +kernel
theorem dL_law_3023 : decode cL_law 3023 = .ok (.iadd, 1) := by decide +kernel
theorem dL_law_3024 : decode cL_law 3024 = .ok (.iaload, 1) := by decide +kernel
theorem dL_law_3025 : decode cL_law 3025 = .ok (.aload_n 3, 1) := by decide +kernel
theorem dL_law_3026 : decode cL_law 3026 = .ok (.invokestatic 322, 3) := by decide +kernel
theorem dL_law_3029 : decode cL_law 3029 = .ok (.istore 5, 2) := by decide +kernel
theorem dL_law_303 : decode cL_law 303 = .ok (.if_icmp .eq 5, 3) := by decide +kernel
theorem dL_law_3031 : decode cL_law 3031 = .ok (.aload_n 2, 1) := by decide +kernel
theorem dL_law_3032 : decode cL_law 3032 = .ok (.aload_n 0, 1) := by decide +kernel
theorem dL_law_3033 : decode cL_law 3033 = .ok (.iload 4, 2) := by decide +kernel
theorem dL_law_3035 : decode cL_law 3035 = .ok (.iconst 1, 1) := by decide +kernel
theorem dL_law_3036 : decode cL_law 3036 = .ok (.iadd, 1) := by decide +kernel
theorem dL_law_3037 : decode cL_law 3037 = .ok (.iaload, 1) := by decide +kernel
theorem dL_law_3038 : decode cL_law 3038 = .ok (.invokevirtual 324, 3) := by decide +kernel
theorem dL_law_3041 : decode cL_law 3041 = .ok (.istore 6, 2) := by decide +kernel
theorem dL_law_3043 : decode cL_law 3043 = .ok (.aload_n 2, 1) := by decide +kernel
theorem dL_law_3044 : decode cL_law 3044 = .ok (.invokevirtual 188, 3) := by decide +kernel
theorem dL_law_3047 : decode cL_law 3047 = .ok (.iload 5, 2) := by decide +kernel
theorem dL_law_3049 : decode cL_law 3049 = .ok (.if_icmp .eq 5, 3) := by decide +kernel
theorem dL_law_3052 : decode cL_law 3052 = .ok (.iconst 0, 1) := by decide +kernel
theorem dL_law_3053 : decode cL_law 3053 = .ok (.ireturn, 1) := by decide +kernel
theorem dL_law_3054 : decode cL_law 3054 = .ok (.iload 5, 2) := by decide +kernel
theorem dL_law_3056 : decode cL_law 3056 = .ok (.ifCond .ne 22, 3) := by decide +kernel
theorem dL_law_3059 : decode cL_law 3059 = .ok (.aload_n 3, 1) := by decide +kernel
theorem dL_law_306 : decode cL_law 306 = .ok (.iconst 0, 1) := by decide +kernel
theorem dL_law_3060 : decode cL_law 3060 = .ok (.iconst 0, 1) := by decide +kernel
theorem dL_law_3061 : decode cL_law 3061 = .ok (.laload, 1) := by decide +kernel
theorem dL_law_3062 : decode cL_law 3062 = .ok (.iload 6, 2) := by decide +kernel
theorem dL_law_3064 : decode cL_law 3064 = .ok (.ifCond .eq 7, 3) := by decide +kernel
theorem dL_law_3067 : decode cL_law 3067 = .ok (.lconst 1, 1) := by decide +kernel
theorem dL_law_3068 : decode cL_law 3068 = .ok (.goto 4, 3) := by decide +kernel
theorem dL_law_307 : decode cL_law 307 = .ok (.ireturn, 1) := by decide +kernel
theorem dL_law_3071 : decode cL_law 3071 = .ok (.lconst 0, 1) := by decide +kernel
theorem dL_law_3072 : decode cL_law 3072 = .ok (.lcmp, 1) := by decide +kernel
theorem dL_law_3073 : decode cL_law 3073 = .ok (.ifCond .eq 5, 3) := by decide +kernel
theorem dL_law_3076 : decode cL_law 3076 = .ok (.iconst 0, 1) := by decide +kernel
theorem dL_law_3077 : decode cL_law 3077 = .ok (.ireturn, 1) := by decide +kernel
theorem dL_law_3078 : decode cL_law 3078 = .ok (.goto 582, 3) := by decide +kernel
theorem dL_law_308 : decode cL_law 308 = .ok (.iload 5, 2) := by decide +kernel
theorem dL_law_3081 : decode cL_law 3081 = .ok (.aload_n 1, 1) := by decide +kernel
theorem dL_law_3082 : decode cL_law 3082 = .ok (.invokevirtual 325, 3) := by decide +kernel
theorem dL_law_3085 : decode cL_law 3085 = .ok (.aload_n 2, 1) := by decide +kernel
theorem dL_law_3086 : decode cL_law 3086 = .ok (.invokevirtual 328, 3) := by decide +kernel
theorem dL_law_3089 : decode cL_law 3089 = .ok (.if_icmp .eq 571, 3) := by decide +kernel
theorem dL_law_3092 : decode cL_law 3092 = .ok (.iconst 0, 1) := by decide +kernel
theorem dL_law_3093 : decode cL_law 3093 = .ok (.ireturn, 1) := by decide +kernel
theorem dL_law_3094 : decode cL_law 3094 = .ok (.aload_n 1, 1) := by decide +kernel
theorem dL_law_3095 : decode cL_law 3095 = .ok (.aload_n 0, 1) := by decide +kernel
theorem dL_law_3096 : decode cL_law 3096 = .ok (.iload 4, 2) := by decide +kernel
theorem dL_law_3098 : decode cL_law 3098 = .ok (.iconst 1, 1) := by decide +kernel
theorem dL_law_3099 : decode cL_law 3099 = .ok (.iadd, 1) := by decide +kernel
theorem dL_law_310 : decode cL_law 310 = .ok (.ifCond .ne 15, 3) := by decide +kernel
theorem dL_law_3100 : decode cL_law 3100 = .ok (.iaload, 1) := by decide +kernel
theorem dL_law_3101 : decode cL_law 3101 = .ok (.i2c, 1) := by decide +kernel
theorem dL_law_3102 : decode cL_law 3102 = .ok (.aload_n 3, 1) := by decide +kernel
theorem dL_law_3103 : decode cL_law 3103 = .ok (.invokestatic 329, 3) := by decide +kernel
theorem dL_law_3106 : decode cL_law 3106 = .ok (.istore 5, 2) := by decide +kernel
theorem dL_law_3108 : decode cL_law 3108 = .ok (.aload_n 2, 1) := by decide +kernel
theorem dL_law_3109 : decode cL_law 3109 = .ok (.aload_n 0, 1) := by decide +kernel
theorem dL_law_3110 : decode cL_law 3110 = .ok (.iload 4, 2) := by decide +kernel
theorem dL_law_3112 : decode cL_law 3112 = .ok (.iconst 1, 1) := by decide +kernel
theorem dL_law_3113 : decode cL_law 3113 = .ok (.iadd, 1) := by decide +kernel
theorem dL_law_3114 : decode cL_law 3114 = .ok (.iaload, 1) := by decide +kernel
theorem dL_law_3115 : decode cL_law 3115 = .ok (.i2c, 1) := by decide +kernel
theorem dL_law_3116 : decode cL_law 3116 = .ok (.invokevirtual 332, 3) := by decide +kernel
theorem dL_law_3119 : decode cL_law 3119 = .ok (.istore 6, 2) := by decide +kernel
theorem dL_law_3121 : decode cL_law 3121 = .ok (.aload_n 2, 1) := by decide +kernel
theorem dL_law_3122 : decode cL_law 3122 = .ok (.invokevirtual 188, 3) := by decide +kernel
theorem dL_law_3125 : decode cL_law 3125 = .ok (.iload 5, 2) := by decide +kernel
theorem dL_law_3127 : decode cL_law 3127 = .ok (.if_icmp .eq 5, 3) := by decide +kernel
theorem dL_law_313 : decode cL_law 313 = .ok (.aload_n 3, 1) := by decide +kernel
theorem dL_law_3130 : decode cL_law 3130 = .ok (.iconst 0, 1) := by decide +kernel
theorem dL_law_3131 : decode cL_law 3131 = .ok (.ireturn, 1) := by decide +kernel
theorem dL_law_3132 : decode cL_law 3132 = .ok (.iload 5, 2) := by decide +kernel
theorem dL_law_3134 : decode cL_law 3134 = .ok (.ifCond .ne 15, 3) := by decide +kernel
theorem dL_law_3137 : decode cL_law 3137 = .ok (.aload_n 3, 1) := by decide +kernel
theorem dL_law_3138 : decode cL_law 3138 = .ok (.iconst 0, 1) := by decide +kernel
theorem dL_law_3139 : decode cL_law 3139 = .ok (.laload, 1) := by decide +kernel
theorem dL_law_314 : decode cL_law 314 = .ok (.iconst 0, 1) := by decide +kernel
theorem dL_law_3140 : decode cL_law 3140 = .ok (.iload 6, 2) := by decide +kernel
theorem dL_law_3142 : decode cL_law 3142 = .ok (.i2l, 1) := by decide +kernel
theorem dL_law_3143 : decode cL_law 3143 = .ok (.lcmp, 1) := by decide +kernel
theorem dL_law_3144 : decode cL_law 3144 = .ok (.ifCond .eq 5, 3) := by decide +kernel
theorem dL_law_3147 : decode cL_law 3147 = .ok (.iconst 0, 1) := by decide +kernel
theorem dL_law_3148 : decode cL_law 3148 = .ok (.ireturn, 1) := by decide +kernel
theorem dL_law_3149 : decode cL_law 3149 = .ok (.goto 511, 3) := by decide +kernel
theorem dL_law_315 : decode cL_law 315 = .ok (.laload, 1) := by decide +kernel
theorem dL_law_3152 : decode cL_law 3152 = .ok (.aload_n 1, 1) := by decide +kernel
theorem dL_law_3153 : decode cL_law 3153 = .ok (.aload_n 3, 1) := by decide +kernel
theorem dL_law_3154 : decode cL_law 3154 = .ok (.invokestatic 333, 3) := by decide +kernel
theorem dL_law_3157 : decode cL_law 3157 = .ok (.istore 5, 2) := by decide +kernel
theorem dL_law_3159 : decode cL_law 3159 = .ok (.aload_n 2, 1) := by decide +kernel
theorem dL_law_316 : decode cL_law 316 = .ok (.iload 6, 2) := by decide +kernel
theorem dL_law_3160 : decode cL_law 3160 = .ok (.invokevirtual 335, 3) := by decide +kernel
theorem dL_law_3163 : decode cL_law 3163 = .ok (.istore 6, 2) := by decide +kernel
theorem dL_law_3165 : decode cL_law 3165 = .ok (.aload_n 2, 1) := by decide +kernel
theorem dL_law_3166 : decode cL_law 3166 = .ok (.invokevirtual 188, 3) := by decide +kernel
theorem dL_law_3169 : decode cL_law 3169 = .ok (.iload 5, 2) := by decide +kernel
theorem dL_law_3171 : decode cL_law 3171 = .ok (.if_icmp .eq 5, 3) := by decide +kernel
theorem dL_law_3174 : decode cL_law 3174 = .ok (.iconst 0, 1) := by decide +kernel
theorem dL_law_3175 : decode cL_law 3175 = .ok (.ireturn, 1) := by decide +kernel
theorem dL_law_3176 : decode cL_law 3176 = .ok (.iload 5, 2) := by decide +kernel
theorem dL_law_3178 : decode cL_law 3178 = .ok (.ifCond .ne 15, 3) := by decide +kernel
theorem dL_law_318 : decode cL_law 318 = .ok (.i2l, 1) := by decide +kernel
theorem dL_law_3181 : decode cL_law 3181 = .ok (.aload_n 3, 1) := by decide +kernel
theorem dL_law_3182 : decode cL_law 3182 = .ok (.iconst 0, 1) := by decide +kernel
theorem dL_law_3183 : decode cL_law 3183 = .ok (.laload, 1) := by decide +kernel
theorem dL_law_3184 : decode cL_law 3184 = .ok (.iload 6, 2) := by decide +kernel
theorem dL_law_3186 : decode cL_law 3186 = .ok (.i2l, 1) := by decide +kernel
theorem dL_law_3187 : decode cL_law 3187 = .ok (.lcmp, 1) := by decide +kernel
theorem dL_law_3188 : decode cL_law 3188 = .ok (.ifCond .eq 5, 3) := by decide +kernel
theorem dL_law_319 : decode cL_law 319 = .ok (.lcmp, 1) := by decide +kernel
theorem dL_law_3191 : decode cL_law 3191 = .ok (.iconst 0, 1) := by decide +kernel
theorem dL_law_3192 : decode cL_law 3192 = .ok (.ireturn, 1) := by decide +kernel
theorem dL_law_3193 : decode cL_law 3193 = .ok (.goto 467, 3) := by decide +kernel
theorem dL_law_3196 : decode cL_law 3196 = .ok (.aload_n 1, 1) := by decide +kernel
theorem dL_law_3197 : decode cL_law 3197 = .ok (.aload_n 3, 1) := by decide +kernel
theorem dL_law_3198 : decode cL_law 3198 = .ok (.invokestatic 336, 3) := by decide +kernel
theorem dL_law_320 : decode cL_law 320 = .ok (.ifCond .eq 5, 3) := by decide +kernel
theorem dL_law_3201 : decode cL_law 3201 = .ok (.istore 5, 2) := by decide +kernel
theorem dL_law_3203 : decode cL_law 3203 = .ok (.aload_n 2, 1) := by decide +kernel
theorem dL_law_3204 : decode cL_law 3204 = .ok (.invokevirtual 338, 3) := by decide +kernel
theorem dL_law_3207 : decode cL_law 3207 = .ok (.istore 6, 2) := by decide +kernel
theorem dL_law_3209 : decode cL_law 3209 = .ok (.aload_n 2, 1) := by decide +kernel
theorem dL_law_3210 : decode cL_law 3210 = .ok (.invokevirtual 188, 3) := by decide +kernel
theorem dL_law_3213 : decode cL_law 3213 = .ok (.iload 5, 2) := by decide +kernel
theorem dL_law_3215 : decode cL_law 3215 = .ok (.if_icmp .eq 5, 3) := by decide +kernel
theorem dL_law_3218 : decode cL_law 3218 = .ok (.iconst 0, 1) := by decide +kernel
theorem dL_law_3219 : decode cL_law 3219 = .ok (.ireturn, 1) := by decide +kernel
theorem dL_law_3220 : decode cL_law 3220 = .ok (.iload 5, 2) := by decide +kernel
theorem dL_law_3222 : decode cL_law 3222 = .ok (.ifCond .ne 15, 3) := by decide +kernel
theorem dL_law_3225 : decode cL_law 3225 = .ok (.aload_n 3, 1) := by decide +kernel
theorem dL_law_3226 : decode cL_law 3226 = .ok (.iconst 0, 1) := by decide +kernel
theorem dL_law_3227 : decode cL_law 3227 = .ok (.laload, 1) := by decide +kernel
theorem dL_law_3228 : decode cL_law 3228 = .ok (.iload 6, 2) := by decide +kernel
theorem dL_law_323 : decode cL_law 323 = .ok (.iconst 0, 1) := by decide +kernel
theorem dL_law_3230 : decode cL_law 3230 = .ok (.i2l, 1) := by decide +kernel
theorem dL_law_3231 : decode cL_law 3231 = .ok (.lcmp, 1) := by decide +kernel
theorem dL_law_3232 : decode cL_law 3232 = .ok (.ifCond .eq 5, 3) := by decide +kernel
theorem dL_law_3235 : decode cL_law 3235 = .ok (.iconst 0, 1) := by decide +kernel
theorem dL_law_3236 : decode cL_law 3236 = .ok (.ireturn, 1) := by decide +kernel
theorem dL_law_3237 : decode cL_law 3237 = .ok (.goto 423, 3) := by decide +kernel
theorem dL_law_324 : decode cL_law 324 = .ok (.ireturn, 1) := by decide +kernel
theorem dL_law_3240 : decode cL_law 3240 = .ok (.aload_n 1, 1) := by decide +kernel
theorem dL_law_3241 : decode cL_law 3241 = .ok (.aload_n 0, 1) := by decide +kernel
theorem dL_law_3242 : decode cL_law 3242 = .ok (.iload 4, 2) := by decide +kernel
theorem dL_law_3244 : decode cL_law 3244 = .ok (.iconst 1, 1) := by decide +kernel
theorem dL_law_3245 : decode cL_law 3245 = .ok (.iadd, 1) := by decide +kernel
theorem dL_law_3246 : decode cL_law 3246 = .ok (.iaload, 1) := by decide +kernel
theorem dL_law_3247 : decode cL_law 3247 = .ok (.aload_n 3, 1) := by decide +kernel
theorem dL_law_3248 : decode cL_law 3248 = .ok (.invokestatic 339, 3) := by decide +kernel
theorem dL_law_325 : decode cL_law 325 = .ok (.goto 3335, 3) := by decide +kernel
theorem dL_law_3251 : decode cL_law 3251 = .ok (.istore 5, 2) := by decide +kernel
theorem dL_law_3253 : decode cL_law 3253 = .ok (.aload_n 2, 1) := by decide +kernel
theorem dL_law_3254 : decode cL_law 3254 = .ok (.aload_n 0, 1) := by decide +kernel
theorem dL_law_3255 : decode cL_law 3255 = .ok (.iload 4, 2) := by decide +kernel
theorem dL_law_3257 : decode cL_law 3257 = .ok (.iconst 1, 1) := by decide +kernel
theorem dL_law_3258 : decode cL_law 3258 = .ok (.iadd, 1) := by decide +kernel
theorem dL_law_3259 : decode cL_law 3259 = .ok (.iaload, 1) := by decide +kernel
theorem dL_law_3260 : decode cL_law 3260 = .ok (.invokevirtual 341, 3) := by decide +kernel
theorem dL_law_3263 : decode cL_law 3263 = .ok (.istore 6, 2) := by decide +kernel
theorem dL_law_3265 : decode cL_law 3265 = .ok (.aload_n 2, 1) := by decide +kernel
theorem dL_law_3266 : decode cL_law 3266 = .ok (.invokevirtual 188, 3) := by decide +kernel
theorem dL_law_3269 : decode cL_law 3269 = .ok (.iload 5, 2) := by decide +kernel
theorem dL_law_3271 : decode cL_law 3271 = .ok (.if_icmp .eq 5, 3) := by decide +kernel
theorem dL_law_3274 : decode cL_law 3274 = .ok (.iconst 0, 1) := by decide +kernel
theorem dL_law_3275 : decode cL_law 3275 = .ok (.ireturn, 1) := by decide +kernel
theorem dL_law_3276 : decode cL_law 3276 = .ok (.iload 5, 2) := by decide +kernel
theorem dL_law_3278 : decode cL_law 3278 = .ok (.ifCond .ne 15, 3) := by decide +kernel
theorem dL_law_328 : decode cL_law 328 = .ok (.aload_n 1, 1) := by decide +kernel
theorem dL_law_3281 : decode cL_law 3281 = .ok (.aload_n 3, 1) := by decide +kernel
theorem dL_law_3282 : decode cL_law 3282 = .ok (.iconst 0, 1) := by decide +kernel
theorem dL_law_3283 : decode cL_law 3283 = .ok (.laload, 1) := by decide +kernel
theorem dL_law_3284 : decode cL_law 3284 = .ok (.iload 6, 2) := by decide +kernel
theorem dL_law_3286 : decode cL_law 3286 = .ok (.i2l, 1) := by decide +kernel
theorem dL_law_3287 : decode cL_law 3287 = .ok (.lcmp, 1) := by decide +kernel
theorem dL_law_3288 : decode cL_law 3288 = .ok (.ifCond .eq 5, 3) := by decide +kernel
theorem dL_law_329 : decode cL_law 329 = .ok (.aload_n 0, 1) := by decide +kernel
theorem dL_law_3291 : decode cL_law 3291 = .ok (.iconst 0, 1) := by decide +kernel
theorem dL_law_3292 : decode cL_law 3292 = .ok (.ireturn, 1) := by decide +kernel
theorem dL_law_3293 : decode cL_law 3293 = .ok (.goto 367, 3) := by decide +kernel
theorem dL_law_3296 : decode cL_law 3296 = .ok (.aload_n 1, 1) := by decide +kernel
theorem dL_law_3297 : decode cL_law 3297 = .ok (.aload_n 0, 1) := by decide +kernel
theorem dL_law_3298 : decode cL_law 3298 = .ok (.iload 4, 2) := by decide +kernel
theorem dL_law_33 : decode cL_law 33 = .ok (.aload_n 0, 1) := by decide +kernel
theorem dL_law_330 : decode cL_law 330 = .ok (.iload 4, 2) := by decide +kernel
theorem dL_law_3300 : decode cL_law 3300 = .ok (.iconst 1, 1) := by decide +kernel
theorem dL_law_3301 : decode cL_law 3301 = .ok (.iadd, 1) := by decide +kernel
theorem dL_law_3302 : decode cL_law 3302 = .ok (.iaload, 1) := by decide +kernel
theorem dL_law_3303 : decode cL_law 3303 = .ok (.aload_n 3, 1) := by decide +kernel
theorem dL_law_3304 : decode cL_law 3304 = .ok (.invokestatic 342, 3) := by decide +kernel
theorem dL_law_3307 : decode cL_law 3307 = .ok (.istore 5, 2) := by decide +kernel
theorem dL_law_3309 : decode cL_law 3309 = .ok (.aload_n 2, 1) := by decide +kernel
theorem dL_law_3310 : decode cL_law 3310 = .ok (.aload_n 0, 1) := by decide +kernel
theorem dL_law_3311 : decode cL_law 3311 = .ok (.iload 4, 2) := by decide +kernel
theorem dL_law_3313 : decode cL_law 3313 = .ok (.iconst 1, 1) := by decide +kernel
theorem dL_law_3314 : decode cL_law 3314 = .ok (.iadd, 1) := by decide +kernel
theorem dL_law_3315 : decode cL_law 3315 = .ok (.iaload, 1) := by decide +kernel
theorem dL_law_3316 : decode cL_law 3316 = .ok (.invokevirtual 344, 3) := by decide +kernel
theorem dL_law_3319 : decode cL_law 3319 = .ok (.istore 6, 2) := by decide +kernel
theorem dL_law_332 : decode cL_law 332 = .ok (.iconst 1, 1) := by decide +kernel
theorem dL_law_3321 : decode cL_law 3321 = .ok (.aload_n 2, 1) := by decide +kernel
theorem dL_law_3322 : decode cL_law 3322 = .ok (.invokevirtual 188, 3) := by decide +kernel
theorem dL_law_3325 : decode cL_law 3325 = .ok (.iload 5, 2) := by decide +kernel
theorem dL_law_3327 : decode cL_law 3327 = .ok (.if_icmp .eq 5, 3) := by decide +kernel
theorem dL_law_333 : decode cL_law 333 = .ok (.iadd, 1) := by decide +kernel
theorem dL_law_3330 : decode cL_law 3330 = .ok (.iconst 0, 1) := by decide +kernel
theorem dL_law_3331 : decode cL_law 3331 = .ok (.ireturn, 1) := by decide +kernel
theorem dL_law_3332 : decode cL_law 3332 = .ok (.iload 5, 2) := by decide +kernel
theorem dL_law_3334 : decode cL_law 3334 = .ok (.ifCond .ne 15, 3) := by decide +kernel
theorem dL_law_3337 : decode cL_law 3337 = .ok (.aload_n 3, 1) := by decide +kernel
theorem dL_law_3338 : decode cL_law 3338 = .ok (.iconst 0, 1) := by decide +kernel
theorem dL_law_3339 : decode cL_law 3339 = .ok (.laload, 1) := by decide +kernel
theorem dL_law_334 : decode cL_law 334 = .ok (.iaload, 1) := by decide +kernel
theorem dL_law_3340 : decode cL_law 3340 = .ok (.iload 6, 2) := by decide +kernel
theorem dL_law_3342 : decode cL_law 3342 = .ok (.i2l, 1) := by decide +kernel
theorem dL_law_3343 : decode cL_law 3343 = .ok (.lcmp, 1) := by decide +kernel
theorem dL_law_3344 : decode cL_law 3344 = .ok (.ifCond .eq 5, 3) := by decide +kernel
theorem dL_law_3347 : decode cL_law 3347 = .ok (.iconst 0, 1) := by decide +kernel
theorem dL_law_3348 : decode cL_law 3348 = .ok (.ireturn, 1) := by decide +kernel
theorem dL_law_3349 : decode cL_law 3349 = .ok (.goto 311, 3) := by decide +kernel
theorem dL_law_335 : decode cL_law 335 = .ok (.aload_n 0, 1) := by decide +kernel
theorem dL_law_3352 : decode cL_law 3352 = .ok (.aload_n 1, 1) := by decide +kernel
theorem dL_law_3353 : decode cL_law 3353 = .ok (.aload_n 0, 1) := by decide +kernel
theorem dL_law_3354 : decode cL_law 3354 = .ok (.iload 4, 2) := by decide +kernel
theorem dL_law_3356 : decode cL_law 3356 = .ok (.iconst 1, 1) := by decide +kernel
theorem dL_law_3357 : decode cL_law 3357 = .ok (.iadd, 1) := by decide +kernel
theorem dL_law_3358 : decode cL_law 3358 = .ok (.iaload, 1) := by decide +kernel
theorem dL_law_3359 : decode cL_law 3359 = .ok (.aload_n 0, 1) := by decide +kernel
theorem dL_law_336 : decode cL_law 336 = .ok (.iload 4, 2) := by decide +kernel
theorem dL_law_3360 : decode cL_law 3360 = .ok (.iload 4, 2) := by decide +kernel
theorem dL_law_3362 : decode cL_law 3362 = .ok (.iconst 2, 1) := by decide +kernel
theorem dL_law_3363 : decode cL_law 3363 = .ok (.iadd, 1) := by decide +kernel
theorem dL_law_3364 : decode cL_law 3364 = .ok (.iaload, 1) := by decide +kernel
theorem dL_law_3365 : decode cL_law 3365 = .ok (.aload_n 0, 1) := by decide +kernel
theorem dL_law_3366 : decode cL_law 3366 = .ok (.iload 4, 2) := by decide +kernel
theorem dL_law_3368 : decode cL_law 3368 = .ok (.iconst 3, 1) := by decide +kernel
theorem dL_law_3369 : decode cL_law 3369 = .ok (.iadd, 1) := by decide +kernel
theorem dL_law_3370 : decode cL_law 3370 = .ok (.iaload, 1) := by decide +kernel
theorem dL_law_3371 : decode cL_law 3371 = .ok (.aload_n 3, 1) := by decide +kernel
theorem dL_law_3372 : decode cL_law 3372 = .ok (.invokestatic 345, 3) := by decide +kernel
theorem dL_law_3375 : decode cL_law 3375 = .ok (.istore 5, 2) := by decide +kernel
theorem dL_law_3377 : decode cL_law 3377 = .ok (.aload_n 2, 1) := by decide +kernel
theorem dL_law_3378 : decode cL_law 3378 = .ok (.aload_n 0, 1) := by decide +kernel
theorem dL_law_3379 : decode cL_law 3379 = .ok (.iload 4, 2) := by decide +kernel
theorem dL_law_338 : decode cL_law 338 = .ok (.iconst 2, 1) := by decide +kernel
theorem dL_law_3381 : decode cL_law 3381 = .ok (.iconst 1, 1) := by decide +kernel
theorem dL_law_3382 : decode cL_law 3382 = .ok (.iadd, 1) := by decide +kernel
theorem dL_law_3383 : decode cL_law 3383 = .ok (.iaload, 1) := by decide +kernel
theorem dL_law_3384 : decode cL_law 3384 = .ok (.aload_n 0, 1) := by decide +kernel
theorem dL_law_3385 : decode cL_law 3385 = .ok (.iload 4, 2) := by decide +kernel
theorem dL_law_3387 : decode cL_law 3387 = .ok (.iconst 2, 1) := by decide +kernel
theorem dL_law_3388 : decode cL_law 3388 = .ok (.iadd, 1) := by decide +kernel
theorem dL_law_3389 : decode cL_law 3389 = .ok (.iaload, 1) := by decide +kernel
theorem dL_law_339 : decode cL_law 339 = .ok (.iadd, 1) := by decide +kernel
theorem dL_law_3390 : decode cL_law 3390 = .ok (.aload_n 0, 1) := by decide +kernel
theorem dL_law_3391 : decode cL_law 3391 = .ok (.iload 4, 2) := by decide +kernel
theorem dL_law_3393 : decode cL_law 3393 = .ok (.iconst 3, 1) := by decide +kernel
theorem dL_law_3394 : decode cL_law 3394 = .ok (.iadd, 1) := by decide +kernel
theorem dL_law_3395 : decode cL_law 3395 = .ok (.iaload, 1) := by decide +kernel
theorem dL_law_3396 : decode cL_law 3396 = .ok (.invokevirtual 347, 3) := by decide +kernel
theorem dL_law_3399 : decode cL_law 3399 = .ok (.istore 6, 2) := by decide +kernel
theorem dL_law_34 : decode cL_law 34 = .ok (.iload 4, 2) := by decide +kernel
theorem dL_law_340 : decode cL_law 340 = .ok (.iaload, 1) := by decide +kernel
theorem dL_law_3401 : decode cL_law 3401 = .ok (.aload_n 2, 1) := by decide +kernel
theorem dL_law_3402 : decode cL_law 3402 = .ok (.invokevirtual 188, 3) := by decide +kernel
theorem dL_law_3405 : decode cL_law 3405 = .ok (.iload 5, 2) := by decide +kernel
theorem dL_law_3407 : decode cL_law 3407 = .ok (.if_icmp .eq 5, 3) := by decide +kernel
theorem dL_law_341 : decode cL_law 341 = .ok (.aload_n 3, 1) := by decide +kernel
theorem dL_law_3410 : decode cL_law 3410 = .ok (.iconst 0, 1) := by decide +kernel
theorem dL_law_3411 : decode cL_law 3411 = .ok (.ireturn, 1) := by decide +kernel
theorem dL_law_3412 : decode cL_law 3412 = .ok (.iload 5, 2) := by decide +kernel
theorem dL_law_3414 : decode cL_law 3414 = .ok (.ifCond .ne 15, 3) := by decide +kernel
theorem dL_law_3417 : decode cL_law 3417 = .ok (.aload_n 3, 1) := by decide +kernel
theorem dL_law_3418 : decode cL_law 3418 = .ok (.iconst 0, 1) := by decide +kernel
theorem dL_law_3419 : decode cL_law 3419 = .ok (.laload, 1) := by decide +kernel
theorem dL_law_342 : decode cL_law 342 = .ok (.invokestatic 191, 3) := by decide +kernel
theorem dL_law_3420 : decode cL_law 3420 = .ok (.iload 6, 2) := by decide +kernel
theorem dL_law_3422 : decode cL_law 3422 = .ok (.i2l, 1) := by decide +kernel
theorem dL_law_3423 : decode cL_law 3423 = .ok (.lcmp, 1) := by decide +kernel
theorem dL_law_3424 : decode cL_law 3424 = .ok (.ifCond .eq 5, 3) := by decide +kernel
theorem dL_law_3427 : decode cL_law 3427 = .ok (.iconst 0, 1) := by decide +kernel
theorem dL_law_3428 : decode cL_law 3428 = .ok (.ireturn, 1) := by decide +kernel
theorem dL_law_3429 : decode cL_law 3429 = .ok (.goto 231, 3) := by decide +kernel
theorem dL_law_3432 : decode cL_law 3432 = .ok (.aload_n 1, 1) := by decide +kernel
theorem dL_law_3433 : decode cL_law 3433 = .ok (.aload_n 0, 1) := by decide +kernel
theorem dL_law_3434 : decode cL_law 3434 = .ok (.iload 4, 2) := by decide +kernel
theorem dL_law_3436 : decode cL_law 3436 = .ok (.iconst 1, 1) := by decide +kernel
theorem dL_law_3437 : decode cL_law 3437 = .ok (.iadd, 1) := by decide +kernel
theorem dL_law_3438 : decode cL_law 3438 = .ok (.iaload, 1) := by decide +kernel
theorem dL_law_3439 : decode cL_law 3439 = .ok (.aload_n 0, 1) := by decide +kernel
theorem dL_law_3440 : decode cL_law 3440 = .ok (.iload 4, 2) := by decide +kernel
theorem dL_law_3442 : decode cL_law 3442 = .ok (.iconst 2, 1) := by decide +kernel
theorem dL_law_3443 : decode cL_law 3443 = .ok (.iadd, 1) := by decide +kernel
theorem dL_law_3444 : decode cL_law 3444 = .ok (.iaload, 1) := by decide +kernel
theorem dL_law_3445 : decode cL_law 3445 = .ok (.aload_n 0, 1) := by decide +kernel
theorem dL_law_3446 : decode cL_law 3446 = .ok (.iload 4, 2) := by decide +kernel
theorem dL_law_3448 : decode cL_law 3448 = .ok (.iconst 3, 1) := by decide +kernel
theorem dL_law_3449 : decode cL_law 3449 = .ok (.iadd, 1) := by decide +kernel
theorem dL_law_345 : decode cL_law 345 = .ok (.istore 5, 2) := by decide +kernel
theorem dL_law_3450 : decode cL_law 3450 = .ok (.iaload, 1) := by decide +kernel
theorem dL_law_3451 : decode cL_law 3451 = .ok (.ifCond .eq 7, 3) := by decide +kernel
theorem dL_law_3454 : decode cL_law 3454 = .ok (.iconst 1, 1) := by decide +kernel
theorem dL_law_3455 : decode cL_law 3455 = .ok (.goto 4, 3) := by decide +kernel
theorem dL_law_3458 : decode cL_law 3458 = .ok (.iconst 0, 1) := by decide +kernel
theorem dL_law_3459 : decode cL_law 3459 = .ok (.aload_n 3, 1) := by decide +kernel
theorem dL_law_3460 : decode cL_law 3460 = .ok (.invokestatic 348, 3) := by decide +kernel
theorem dL_law_3463 : decode cL_law 3463 = .ok (.istore 5, 2) := by decide +kernel
theorem dL_law_3465 : decode cL_law 3465 = .ok (.aload_n 2, 1) := by decide +kernel
theorem dL_law_3466 : decode cL_law 3466 = .ok (.aload_n 0, 1) := by decide +kernel
theorem dL_law_3467 : decode cL_law 3467 = .ok (.iload 4, 2) := by decide +kernel
theorem dL_law_3469 : decode cL_law 3469 = .ok (.iconst 1, 1) := by decide +kernel
theorem dL_law_347 : decode cL_law 347 = .ok (.aload_n 2, 1) := by decide +kernel
theorem dL_law_3470 : decode cL_law 3470 = .ok (.iadd, 1) := by decide +kernel
theorem dL_law_3471 : decode cL_law 3471 = .ok (.iaload, 1) := by decide +kernel
theorem dL_law_3472 : decode cL_law 3472 = .ok (.aload_n 0, 1) := by decide +kernel
theorem dL_law_3473 : decode cL_law 3473 = .ok (.iload 4, 2) := by decide +kernel
theorem dL_law_3475 : decode cL_law 3475 = .ok (.iconst 2, 1) := by decide +kernel
theorem dL_law_3476 : decode cL_law 3476 = .ok (.iadd, 1) := by decide +kernel
theorem dL_law_3477 : decode cL_law 3477 = .ok (.iaload, 1) := by decide +kernel
theorem dL_law_3478 : decode cL_law 3478 = .ok (.aload_n 0, 1) := by decide +kernel
theorem dL_law_3479 : decode cL_law 3479 = .ok (.iload 4, 2) := by decide +kernel
theorem dL_law_348 : decode cL_law 348 = .ok (.aload_n 0, 1) := by decide +kernel
theorem dL_law_3481 : decode cL_law 3481 = .ok (.iconst 3, 1) := by decide +kernel
theorem dL_law_3482 : decode cL_law 3482 = .ok (.iadd, 1) := by decide +kernel
theorem dL_law_3483 : decode cL_law 3483 = .ok (.iaload, 1) := by decide +kernel
theorem dL_law_3484 : decode cL_law 3484 = .ok (.ifCond .eq 7, 3) := by decide +kernel
theorem dL_law_3487 : decode cL_law 3487 = .ok (.iconst 1, 1) := by decide +kernel
theorem dL_law_3488 : decode cL_law 3488 = .ok (.goto 4, 3) := by decide +kernel
theorem dL_law_349 : decode cL_law 349 = .ok (.iload 4, 2) := by decide +kernel
theorem dL_law_3491 : decode cL_law 3491 = .ok (.iconst 0, 1) := by decide +kernel
theorem dL_law_3492 : decode cL_law 3492 = .ok (.invokevirtual 351, 3) := by decide +kernel
theorem dL_law_3495 : decode cL_law 3495 = .ok (.istore 6, 2) := by decide +kernel
theorem dL_law_3497 : decode cL_law 3497 = .ok (.aload_n 2, 1) := by decide +kernel
theorem dL_law_3498 : decode cL_law 3498 = .ok (.invokevirtual 188, 3) := by decide +kernel
theorem dL_law_3501 : decode cL_law 3501 = .ok (.iload 5, 2) := by decide +kernel
theorem dL_law_3503 : decode cL_law 3503 = .ok (.if_icmp .eq 5, 3) := by decide +kernel
theorem dL_law_3506 : decode cL_law 3506 = .ok (.iconst 0, 1) := by decide +kernel
theorem dL_law_3507 : decode cL_law 3507 = .ok (.ireturn, 1) := by decide +kernel
theorem dL_law_3508 : decode cL_law 3508 = .ok (.iload 5, 2) := by decide +kernel
theorem dL_law_351 : decode cL_law 351 = .ok (.iconst 1, 1) := by decide +kernel
theorem dL_law_3510 : decode cL_law 3510 = .ok (.ifCond .ne 22, 3) := by decide +kernel
theorem dL_law_3513 : decode cL_law 3513 = .ok (.aload_n 3, 1) := by decide +kernel
theorem dL_law_3514 : decode cL_law 3514 = .ok (.iconst 0, 1) := by decide +kernel
theorem dL_law_3515 : decode cL_law 3515 = .ok (.laload, 1) := by decide +kernel
theorem dL_law_3516 : decode cL_law 3516 = .ok (.iload 6, 2) := by decide +kernel
theorem dL_law_3518 : decode cL_law 3518 = .ok (.ifCond .eq 7, 3) := by decide +kernel
theorem dL_law_352 : decode cL_law 352 = .ok (.iadd, 1) := by decide +kernel
theorem dL_law_3521 : decode cL_law 3521 = .ok (.lconst 1, 1) := by decide +kernel
theorem dL_law_3522 : decode cL_law 3522 = .ok (.goto 4, 3) := by decide +kernel
theorem dL_law_3525 : decode cL_law 3525 = .ok (.lconst 0, 1) := by decide +kernel
theorem dL_law_3526 : decode cL_law 3526 = .ok (.lcmp, 1) := by decide +kernel
theorem dL_law_3527 : decode cL_law 3527 = .ok (.ifCond .eq 5, 3) := by decide +kernel
theorem dL_law_353 : decode cL_law 353 = .ok (.iaload, 1) := by decide +kernel
theorem dL_law_3530 : decode cL_law 3530 = .ok (.iconst 0, 1) := by decide +kernel
theorem dL_law_3531 : decode cL_law 3531 = .ok (.ireturn, 1) := by decide +kernel
theorem dL_law_3532 : decode cL_law 3532 = .ok (.goto 128, 3) := by decide +kernel
theorem dL_law_3535 : decode cL_law 3535 = .ok (.aload_n 1, 1) := by decide +kernel
theorem dL_law_3536 : decode cL_law 3536 = .ok (.aload_n 0, 1) := by decide +kernel
theorem dL_law_3537 : decode cL_law 3537 = .ok (.iload 4, 2) := by decide +kernel
theorem dL_law_3539 : decode cL_law 3539 = .ok (.iconst 1, 1) := by decide +kernel
theorem dL_law_354 : decode cL_law 354 = .ok (.aload_n 0, 1) := by decide +kernel
theorem dL_law_3540 : decode cL_law 3540 = .ok (.iadd, 1) := by decide +kernel
theorem dL_law_3541 : decode cL_law 3541 = .ok (.iaload, 1) := by decide +kernel
theorem dL_law_3542 : decode cL_law 3542 = .ok (.aload_n 0, 1) := by decide +kernel
theorem dL_law_3543 : decode cL_law 3543 = .ok (.iload 4, 2) := by decide +kernel
theorem dL_law_3545 : decode cL_law 3545 = .ok (.iconst 2, 1) := by decide +kernel
theorem dL_law_3546 : decode cL_law 3546 = .ok (.iadd, 1) := by decide +kernel
theorem dL_law_3547 : decode cL_law 3547 = .ok (.iaload, 1) := by decide +kernel
theorem dL_law_3548 : decode cL_law 3548 = .ok (.aload_n 3, 1) := by decide +kernel
theorem dL_law_3549 : decode cL_law 3549 = .ok (.invokestatic 352, 3) := by decide +kernel
theorem dL_law_355 : decode cL_law 355 = .ok (.iload 4, 2) := by decide +kernel
theorem dL_law_3552 : decode cL_law 3552 = .ok (.istore 5, 2) := by decide +kernel
theorem dL_law_3554 : decode cL_law 3554 = .ok (.aload_n 2, 1) := by decide +kernel
theorem dL_law_3555 : decode cL_law 3555 = .ok (.aload_n 0, 1) := by decide +kernel
theorem dL_law_3556 : decode cL_law 3556 = .ok (.iload 4, 2) := by decide +kernel
theorem dL_law_3558 : decode cL_law 3558 = .ok (.iconst 1, 1) := by decide +kernel
theorem dL_law_3559 : decode cL_law 3559 = .ok (.iadd, 1) := by decide +kernel
theorem dL_law_3560 : decode cL_law 3560 = .ok (.iaload, 1) := by decide +kernel
theorem dL_law_3561 : decode cL_law 3561 = .ok (.aload_n 0, 1) := by decide +kernel
theorem dL_law_3562 : decode cL_law 3562 = .ok (.iload 4, 2) := by decide +kernel
theorem dL_law_3564 : decode cL_law 3564 = .ok (.iconst 2, 1) := by decide +kernel
theorem dL_law_3565 : decode cL_law 3565 = .ok (.iadd, 1) := by decide +kernel
theorem dL_law_3566 : decode cL_law 3566 = .ok (.iaload, 1) := by decide +kernel
theorem dL_law_3567 : decode cL_law 3567 = .ok (.invokevirtual 354, 3) := by decide +kernel
theorem dL_law_357 : decode cL_law 357 = .ok (.iconst 2, 1) := by decide +kernel
theorem dL_law_3570 : decode cL_law 3570 = .ok (.istore 6, 2) := by decide +kernel
theorem dL_law_3572 : decode cL_law 3572 = .ok (.aload_n 2, 1) := by decide +kernel
theorem dL_law_3573 : decode cL_law 3573 = .ok (.invokevirtual 188, 3) := by decide +kernel
theorem dL_law_3576 : decode cL_law 3576 = .ok (.iload 5, 2) := by decide +kernel
theorem dL_law_3578 : decode cL_law 3578 = .ok (.if_icmp .eq 5, 3) := by decide +kernel
theorem dL_law_358 : decode cL_law 358 = .ok (.iadd, 1) := by decide +kernel
theorem dL_law_3581 : decode cL_law 3581 = .ok (.iconst 0, 1) := by decide +kernel
theorem dL_law_3582 : decode cL_law 3582 = .ok (.ireturn, 1) := by decide +kernel
theorem dL_law_3583 : decode cL_law 3583 = .ok (.iload 5, 2) := by decide +kernel
theorem dL_law_3585 : decode cL_law 3585 = .ok (.ifCond .ne 15, 3) := by decide +kernel
theorem dL_law_3588 : decode cL_law 3588 = .ok (.aload_n 3, 1) := by decide +kernel
theorem dL_law_3589 : decode cL_law 3589 = .ok (.iconst 0, 1) := by decide +kernel
theorem dL_law_359 : decode cL_law 359 = .ok (.iaload, 1) := by decide +kernel
theorem dL_law_3590 : decode cL_law 3590 = .ok (.laload, 1) := by decide +kernel
theorem dL_law_3591 : decode cL_law 3591 = .ok (.iload 6, 2) := by decide +kernel
theorem dL_law_3593 : decode cL_law 3593 = .ok (.i2l, 1) := by decide +kernel
theorem dL_law_3594 : decode cL_law 3594 = .ok (.lcmp, 1) := by decide +kernel
theorem dL_law_3595 : decode cL_law 3595 = .ok (.ifCond .eq 5, 3) := by decide +kernel
theorem dL_law_3598 : decode cL_law 3598 = .ok (.iconst 0, 1) := by decide +kernel
theorem dL_law_3599 : decode cL_law 3599 = .ok (.ireturn, 1) := by decide +kernel
theorem dL_law_36 : decode cL_law 36 = .ok (.iaload, 1) := by decide +kernel
theorem dL_law_360 : decode cL_law 360 = .ok (.invokevirtual 194, 3) := by decide +kernel
theorem dL_law_3600 : decode cL_law 3600 = .ok (.goto 60, 3) := by decide +kernel
theorem dL_law_3603 : decode cL_law 3603 = .ok (.aload_n 1, 1) := by decide +kernel
theorem dL_law_3604 : decode cL_law 3604 = .ok (.invokevirtual 355, 3) := by decide +kernel
theorem dL_law_3607 : decode cL_law 3607 = .ok (.aload_n 2, 1) := by decide +kernel
theorem dL_law_3608 : decode cL_law 3608 = .ok (.invokevirtual 358, 3) := by decide +kernel
theorem dL_law_3611 : decode cL_law 3611 = .ok (.if_icmp .eq 49, 3) := by decide +kernel
theorem dL_law_3614 : decode cL_law 3614 = .ok (.iconst 0, 1) := by decide +kernel
theorem dL_law_3615 : decode cL_law 3615 = .ok (.ireturn, 1) := by decide +kernel
theorem dL_law_3616 : decode cL_law 3616 = .ok (.aload_n 1, 1) := by decide +kernel
theorem dL_law_3617 : decode cL_law 3617 = .ok (.aload_n 3, 1) := by decide +kernel
theorem dL_law_3618 : decode cL_law 3618 = .ok (.invokestatic 359, 3) := by decide +kernel
theorem dL_law_3621 : decode cL_law 3621 = .ok (.istore 5, 2) := by decide +kernel
theorem dL_law_3623 : decode cL_law 3623 = .ok (.aload_n 2, 1) := by decide +kernel
theorem dL_law_3624 : decode cL_law 3624 = .ok (.invokevirtual 361, 3) := by decide +kernel
theorem dL_law_3627 : decode cL_law 3627 = .ok (.istore 6, 2) := by decide +kernel
theorem dL_law_3629 : decode cL_law 3629 = .ok (.aload_n 2, 1) := by decide +kernel
theorem dL_law_363 : decode cL_law 363 = .ok (.istore 6, 2) := by decide +kernel
theorem dL_law_3630 : decode cL_law 3630 = .ok (.invokevirtual 188, 3) := by decide +kernel
theorem dL_law_3633 : decode cL_law 3633 = .ok (.iload 5, 2) := by decide +kernel
theorem dL_law_3635 : decode cL_law 3635 = .ok (.if_icmp .eq 5, 3) := by decide +kernel
theorem dL_law_3638 : decode cL_law 3638 = .ok (.iconst 0, 1) := by decide +kernel
theorem dL_law_3639 : decode cL_law 3639 = .ok (.ireturn, 1) := by decide +kernel
theorem dL_law_3640 : decode cL_law 3640 = .ok (.iload 5, 2) := by decide +kernel
theorem dL_law_3642 : decode cL_law 3642 = .ok (.ifCond .ne 15, 3) := by decide +kernel
theorem dL_law_3645 : decode cL_law 3645 = .ok (.aload_n 3, 1) := by decide +kernel
theorem dL_law_3646 : decode cL_law 3646 = .ok (.iconst 0, 1) := by decide +kernel
theorem dL_law_3647 : decode cL_law 3647 = .ok (.laload, 1) := by decide +kernel
theorem dL_law_3648 : decode cL_law 3648 = .ok (.iload 6, 2) := by decide +kernel
theorem dL_law_365 : decode cL_law 365 = .ok (.aload_n 2, 1) := by decide +kernel
theorem dL_law_3650 : decode cL_law 3650 = .ok (.i2l, 1) := by decide +kernel
theorem dL_law_3651 : decode cL_law 3651 = .ok (.lcmp, 1) := by decide +kernel
theorem dL_law_3652 : decode cL_law 3652 = .ok (.ifCond .eq 5, 3) := by decide +kernel
theorem dL_law_3655 : decode cL_law 3655 = .ok (.iconst 0, 1) := by decide +kernel
theorem dL_law_3656 : decode cL_law 3656 = .ok (.ireturn, 1) := by decide +kernel
theorem dL_law_3657 : decode cL_law 3657 = .ok (.goto 3, 3) := by decide +kernel
theorem dL_law_366 : decode cL_law 366 = .ok (.invokevirtual 188, 3) := by decide +kernel
theorem dL_law_3660 : decode cL_law 3660 = .ok (.iinc 4 6, 3) := by decide +kernel
theorem dL_law_3663 : decode cL_law 3663 = .ok (.goto (-3640), 3) := by decide +kernel
theorem dL_law_369 : decode cL_law 369 = .ok (.iload 5, 2) := by decide +kernel
theorem dL_law_37 : decode cL_law 37 = .ok (.bipush 63, 2) := by decide +kernel
theorem dL_law_371 : decode cL_law 371 = .ok (.if_icmp .eq 5, 3) := by decide +kernel
theorem dL_law_374 : decode cL_law 374 = .ok (.iconst 0, 1) := by decide +kernel
theorem dL_law_375 : decode cL_law 375 = .ok (.ireturn, 1) := by decide +kernel
theorem dL_law_376 : decode cL_law 376 = .ok (.iload 5, 2) := by decide +kernel
theorem dL_law_378 : decode cL_law 378 = .ok (.ifCond .ne 15, 3) := by decide +kernel
theorem dL_law_381 : decode cL_law 381 = .ok (.aload_n 3, 1) := by decide +kernel
theorem dL_law_382 : decode cL_law 382 = .ok (.iconst 0, 1) := by decide +kernel
theorem dL_law_383 : decode cL_law 383 = .ok (.laload, 1) := by decide +kernel
theorem dL_law_384 : decode cL_law 384 = .ok (.iload 6, 2) := by decide +kernel
theorem dL_law_386 : decode cL_law 386 = .ok (.i2l, 1) := by decide +kernel
theorem dL_law_387 : decode cL_law 387 = .ok (.lcmp, 1) := by decide +kernel
theorem dL_law_388 : decode cL_law 388 = .ok (.ifCond .eq 5, 3) := by decide +kernel
theorem dL_law_39 : decode cL_law 39 = .ok (.iand, 1) := by decide +kernel
theorem dL_law_391 : decode cL_law 391 = .ok (.iconst 0, 1) := by decide +kernel
theorem dL_law_392 : decode cL_law 392 = .ok (.ireturn, 1) := by decide +kernel
theorem dL_law_393 : decode cL_law 393 = .ok (.goto 3267, 3) := by decide +kernel
theorem dL_law_396 : decode cL_law 396 = .ok (.aload_n 1, 1) := by decide +kernel
theorem dL_law_397 : decode cL_law 397 = .ok (.aload_n 0, 1) := by decide +kernel
theorem dL_law_398 : decode cL_law 398 = .ok (.iload 4, 2) := by decide +kernel
theorem dL_law_40 : decode cL_law 40 = .ok (.tableswitch 3620 0 53 #[232, 288, 356, 424, 499, 574, 649, 705, 761, 774, 849, 862, 918, 986, 1054, 1134, 1238, 1325, 1400, 1456, 1524, 1599, 1674, 1742, 1822, 1890, 1977, 2057, 2132, 2195, 2239, 2295, 2399, 2443, 2456, 2512, 2587, 2631, 2675, 2774, 2818, 2922, 2978, 3041, 3054, 3112, 3156, 3200, 3256, 3312, 3392, 3495, 3563, 3576], 232) := by decide +kernel
theorem dL_law_400 : decode cL_law 400 = .ok (.iconst 1, 1) := by decide +kernel
theorem dL_law_401 : decode cL_law 401 = .ok (.iadd, 1) := by decide +kernel
theorem dL_law_402 : decode cL_law 402 = .ok (.iaload, 1) := by decide +kernel
theorem dL_law_403 : decode cL_law 403 = .ok (.aload_n 0, 1) := by decide +kernel
theorem dL_law_404 : decode cL_law 404 = .ok (.iload 4, 2) := by decide +kernel
theorem dL_law_406 : decode cL_law 406 = .ok (.iconst 2, 1) := by decide +kernel
theorem dL_law_407 : decode cL_law 407 = .ok (.iadd, 1) := by decide +kernel
theorem dL_law_408 : decode cL_law 408 = .ok (.iaload, 1) := by decide +kernel
theorem dL_law_409 : decode cL_law 409 = .ok (.aload_n 3, 1) := by decide +kernel
theorem dL_law_410 : decode cL_law 410 = .ok (.invokestatic 195, 3) := by decide +kernel
theorem dL_law_413 : decode cL_law 413 = .ok (.istore 5, 2) := by decide +kernel
theorem dL_law_415 : decode cL_law 415 = .ok (.aload_n 2, 1) := by decide +kernel
theorem dL_law_416 : decode cL_law 416 = .ok (.aload_n 0, 1) := by decide +kernel
theorem dL_law_417 : decode cL_law 417 = .ok (.iload 4, 2) := by decide +kernel
theorem dL_law_419 : decode cL_law 419 = .ok (.iconst 1, 1) := by decide +kernel
theorem dL_law_420 : decode cL_law 420 = .ok (.iadd, 1) := by decide +kernel
theorem dL_law_421 : decode cL_law 421 = .ok (.iaload, 1) := by decide +kernel
theorem dL_law_422 : decode cL_law 422 = .ok (.aload_n 0, 1) := by decide +kernel
theorem dL_law_423 : decode cL_law 423 = .ok (.iload 4, 2) := by decide +kernel
theorem dL_law_425 : decode cL_law 425 = .ok (.iconst 2, 1) := by decide +kernel
theorem dL_law_426 : decode cL_law 426 = .ok (.iadd, 1) := by decide +kernel
theorem dL_law_427 : decode cL_law 427 = .ok (.iaload, 1) := by decide +kernel
theorem dL_law_428 : decode cL_law 428 = .ok (.invokevirtual 197, 3) := by decide +kernel
theorem dL_law_431 : decode cL_law 431 = .ok (.istore 6, 2) := by decide +kernel
theorem dL_law_433 : decode cL_law 433 = .ok (.aload_n 2, 1) := by decide +kernel
theorem dL_law_434 : decode cL_law 434 = .ok (.invokevirtual 188, 3) := by decide +kernel
theorem dL_law_437 : decode cL_law 437 = .ok (.iload 5, 2) := by decide +kernel
theorem dL_law_439 : decode cL_law 439 = .ok (.if_icmp .eq 5, 3) := by decide +kernel
theorem dL_law_442 : decode cL_law 442 = .ok (.iconst 0, 1) := by decide +kernel
theorem dL_law_443 : decode cL_law 443 = .ok (.ireturn, 1) := by decide +kernel
theorem dL_law_444 : decode cL_law 444 = .ok (.iload 5, 2) := by decide +kernel
theorem dL_law_446 : decode cL_law 446 = .ok (.ifCond .ne 15, 3) := by decide +kernel
theorem dL_law_449 : decode cL_law 449 = .ok (.aload_n 3, 1) := by decide +kernel
theorem dL_law_450 : decode cL_law 450 = .ok (.iconst 0, 1) := by decide +kernel
theorem dL_law_451 : decode cL_law 451 = .ok (.laload, 1) := by decide +kernel
theorem dL_law_452 : decode cL_law 452 = .ok (.iload 6, 2) := by decide +kernel
theorem dL_law_454 : decode cL_law 454 = .ok (.i2l, 1) := by decide +kernel
theorem dL_law_455 : decode cL_law 455 = .ok (.lcmp, 1) := by decide +kernel
theorem dL_law_456 : decode cL_law 456 = .ok (.ifCond .eq 5, 3) := by decide +kernel
theorem dL_law_459 : decode cL_law 459 = .ok (.iconst 0, 1) := by decide +kernel
theorem dL_law_460 : decode cL_law 460 = .ok (.ireturn, 1) := by decide +kernel
theorem dL_law_461 : decode cL_law 461 = .ok (.goto 3199, 3) := by decide +kernel
theorem dL_law_464 : decode cL_law 464 = .ok (.aload_n 1, 1) := by decide +kernel
theorem dL_law_465 : decode cL_law 465 = .ok (.aload_n 0, 1) := by decide +kernel
theorem dL_law_466 : decode cL_law 466 = .ok (.iload 4, 2) := by decide +kernel
theorem dL_law_468 : decode cL_law 468 = .ok (.iconst 1, 1) := by decide +kernel
theorem dL_law_469 : decode cL_law 469 = .ok (.iadd, 1) := by decide +kernel
theorem dL_law_470 : decode cL_law 470 = .ok (.iaload, 1) := by decide +kernel
theorem dL_law_471 : decode cL_law 471 = .ok (.aload_n 0, 1) := by decide +kernel
theorem dL_law_472 : decode cL_law 472 = .ok (.iload 4, 2) := by decide +kernel
theorem dL_law_474 : decode cL_law 474 = .ok (.iconst 2, 1) := by decide +kernel
theorem dL_law_475 : decode cL_law 475 = .ok (.iadd, 1) := by decide +kernel
theorem dL_law_476 : decode cL_law 476 = .ok (.iaload, 1) := by decide +kernel
theorem dL_law_477 : decode cL_law 477 = .ok (.aload_n 3, 1) := by decide +kernel
theorem dL_law_478 : decode cL_law 478 = .ok (.invokestatic 198, 3) := by decide +kernel
theorem dL_law_481 : decode cL_law 481 = .ok (.istore 5, 2) := by decide +kernel
theorem dL_law_483 : decode cL_law 483 = .ok (.aload_n 2, 1) := by decide +kernel
theorem dL_law_484 : decode cL_law 484 = .ok (.aload_n 0, 1) := by decide +kernel
theorem dL_law_485 : decode cL_law 485 = .ok (.iload 4, 2) := by decide +kernel
theorem dL_law_487 : decode cL_law 487 = .ok (.iconst 1, 1) := by decide +kernel
theorem dL_law_488 : decode cL_law 488 = .ok (.iadd, 1) := by decide +kernel
theorem dL_law_489 : decode cL_law 489 = .ok (.iaload, 1) := by decide +kernel
theorem dL_law_490 : decode cL_law 490 = .ok (.aload_n 0, 1) := by decide +kernel
theorem dL_law_491 : decode cL_law 491 = .ok (.iload 4, 2) := by decide +kernel
theorem dL_law_493 : decode cL_law 493 = .ok (.iconst 2, 1) := by decide +kernel
theorem dL_law_494 : decode cL_law 494 = .ok (.iadd, 1) := by decide +kernel
theorem dL_law_495 : decode cL_law 495 = .ok (.iaload, 1) := by decide +kernel
theorem dL_law_496 : decode cL_law 496 = .ok (.invokevirtual 200, 3) := by decide +kernel
theorem dL_law_499 : decode cL_law 499 = .ok (.istore 6, 2) := by decide +kernel
theorem dL_law_501 : decode cL_law 501 = .ok (.aload_n 2, 1) := by decide +kernel
theorem dL_law_502 : decode cL_law 502 = .ok (.invokevirtual 188, 3) := by decide +kernel
theorem dL_law_505 : decode cL_law 505 = .ok (.iload 5, 2) := by decide +kernel
theorem dL_law_507 : decode cL_law 507 = .ok (.if_icmp .eq 5, 3) := by decide +kernel
theorem dL_law_510 : decode cL_law 510 = .ok (.iconst 0, 1) := by decide +kernel
theorem dL_law_511 : decode cL_law 511 = .ok (.ireturn, 1) := by decide +kernel
theorem dL_law_512 : decode cL_law 512 = .ok (.iload 5, 2) := by decide +kernel
theorem dL_law_514 : decode cL_law 514 = .ok (.ifCond .ne 22, 3) := by decide +kernel
theorem dL_law_517 : decode cL_law 517 = .ok (.aload_n 3, 1) := by decide +kernel
theorem dL_law_518 : decode cL_law 518 = .ok (.iconst 0, 1) := by decide +kernel
theorem dL_law_519 : decode cL_law 519 = .ok (.laload, 1) := by decide +kernel
theorem dL_law_520 : decode cL_law 520 = .ok (.iload 6, 2) := by decide +kernel
theorem dL_law_522 : decode cL_law 522 = .ok (.ifCond .eq 7, 3) := by decide +kernel
theorem dL_law_525 : decode cL_law 525 = .ok (.lconst 1, 1) := by decide +kernel
theorem dL_law_526 : decode cL_law 526 = .ok (.goto 4, 3) := by decide +kernel
theorem dL_law_529 : decode cL_law 529 = .ok (.lconst 0, 1) := by decide +kernel
theorem dL_law_530 : decode cL_law 530 = .ok (.lcmp, 1) := by decide +kernel
theorem dL_law_531 : decode cL_law 531 = .ok (.ifCond .eq 5, 3) := by decide +kernel
theorem dL_law_534 : decode cL_law 534 = .ok (.iconst 0, 1) := by decide +kernel
theorem dL_law_535 : decode cL_law 535 = .ok (.ireturn, 1) := by decide +kernel
theorem dL_law_536 : decode cL_law 536 = .ok (.goto 3124, 3) := by decide +kernel
theorem dL_law_539 : decode cL_law 539 = .ok (.aload_n 1, 1) := by decide +kernel
theorem dL_law_540 : decode cL_law 540 = .ok (.aload_n 0, 1) := by decide +kernel
theorem dL_law_541 : decode cL_law 541 = .ok (.iload 4, 2) := by decide +kernel
theorem dL_law_543 : decode cL_law 543 = .ok (.iconst 1, 1) := by decide +kernel
theorem dL_law_544 : decode cL_law 544 = .ok (.iadd, 1) := by decide +kernel
theorem dL_law_545 : decode cL_law 545 = .ok (.iaload, 1) := by decide +kernel
theorem dL_law_546 : decode cL_law 546 = .ok (.aload_n 0, 1) := by decide +kernel
theorem dL_law_547 : decode cL_law 547 = .ok (.iload 4, 2) := by decide +kernel
theorem dL_law_549 : decode cL_law 549 = .ok (.iconst 2, 1) := by decide +kernel
theorem dL_law_550 : decode cL_law 550 = .ok (.iadd, 1) := by decide +kernel
theorem dL_law_551 : decode cL_law 551 = .ok (.iaload, 1) := by decide +kernel
theorem dL_law_552 : decode cL_law 552 = .ok (.aload_n 3, 1) := by decide +kernel
theorem dL_law_553 : decode cL_law 553 = .ok (.invokestatic 201, 3) := by decide +kernel
theorem dL_law_556 : decode cL_law 556 = .ok (.istore 5, 2) := by decide +kernel
theorem dL_law_558 : decode cL_law 558 = .ok (.aload_n 2, 1) := by decide +kernel
theorem dL_law_559 : decode cL_law 559 = .ok (.aload_n 0, 1) := by decide +kernel
theorem dL_law_560 : decode cL_law 560 = .ok (.iload 4, 2) := by decide +kernel
theorem dL_law_562 : decode cL_law 562 = .ok (.iconst 1, 1) := by decide +kernel
theorem dL_law_563 : decode cL_law 563 = .ok (.iadd, 1) := by decide +kernel
theorem dL_law_564 : decode cL_law 564 = .ok (.iaload, 1) := by decide +kernel
theorem dL_law_565 : decode cL_law 565 = .ok (.aload_n 0, 1) := by decide +kernel
theorem dL_law_566 : decode cL_law 566 = .ok (.iload 4, 2) := by decide +kernel
theorem dL_law_568 : decode cL_law 568 = .ok (.iconst 2, 1) := by decide +kernel
theorem dL_law_569 : decode cL_law 569 = .ok (.iadd, 1) := by decide +kernel
theorem dL_law_570 : decode cL_law 570 = .ok (.iaload, 1) := by decide +kernel
theorem dL_law_571 : decode cL_law 571 = .ok (.invokevirtual 203, 3) := by decide +kernel
theorem dL_law_574 : decode cL_law 574 = .ok (.istore 6, 2) := by decide +kernel
theorem dL_law_576 : decode cL_law 576 = .ok (.aload_n 2, 1) := by decide +kernel
theorem dL_law_577 : decode cL_law 577 = .ok (.invokevirtual 188, 3) := by decide +kernel
theorem dL_law_580 : decode cL_law 580 = .ok (.iload 5, 2) := by decide +kernel
theorem dL_law_582 : decode cL_law 582 = .ok (.if_icmp .eq 5, 3) := by decide +kernel
theorem dL_law_585 : decode cL_law 585 = .ok (.iconst 0, 1) := by decide +kernel
theorem dL_law_586 : decode cL_law 586 = .ok (.ireturn, 1) := by decide +kernel
theorem dL_law_587 : decode cL_law 587 = .ok (.iload 5, 2) := by decide +kernel
theorem dL_law_589 : decode cL_law 589 = .ok (.ifCond .ne 22, 3) := by decide +kernel
theorem dL_law_592 : decode cL_law 592 = .ok (.aload_n 3, 1) := by decide +kernel
theorem dL_law_593 : decode cL_law 593 = .ok (.iconst 0, 1) := by decide +kernel
theorem dL_law_594 : decode cL_law 594 = .ok (.laload, 1) := by decide +kernel
theorem dL_law_595 : decode cL_law 595 = .ok (.iload 6, 2) := by decide +kernel
theorem dL_law_597 : decode cL_law 597 = .ok (.ifCond .eq 7, 3) := by decide +kernel
theorem dL_law_600 : decode cL_law 600 = .ok (.lconst 1, 1) := by decide +kernel
theorem dL_law_601 : decode cL_law 601 = .ok (.goto 4, 3) := by decide +kernel
theorem dL_law_604 : decode cL_law 604 = .ok (.lconst 0, 1) := by decide +kernel
theorem dL_law_605 : decode cL_law 605 = .ok (.lcmp, 1) := by decide +kernel
theorem dL_law_606 : decode cL_law 606 = .ok (.ifCond .eq 5, 3) := by decide +kernel
theorem dL_law_609 : decode cL_law 609 = .ok (.iconst 0, 1) := by decide +kernel
theorem dL_law_610 : decode cL_law 610 = .ok (.ireturn, 1) := by decide +kernel
theorem dL_law_611 : decode cL_law 611 = .ok (.goto 3049, 3) := by decide +kernel
theorem dL_law_614 : decode cL_law 614 = .ok (.aload_n 1, 1) := by decide +kernel
theorem dL_law_615 : decode cL_law 615 = .ok (.aload_n 0, 1) := by decide +kernel
theorem dL_law_616 : decode cL_law 616 = .ok (.iload 4, 2) := by decide +kernel
theorem dL_law_618 : decode cL_law 618 = .ok (.iconst 1, 1) := by decide +kernel
theorem dL_law_619 : decode cL_law 619 = .ok (.iadd, 1) := by decide +kernel
theorem dL_law_620 : decode cL_law 620 = .ok (.iaload, 1) := by decide +kernel
theorem dL_law_621 : decode cL_law 621 = .ok (.aload_n 0, 1) := by decide +kernel
theorem dL_law_622 : decode cL_law 622 = .ok (.iload 4, 2) := by decide +kernel
theorem dL_law_624 : decode cL_law 624 = .ok (.iconst 2, 1) := by decide +kernel
theorem dL_law_625 : decode cL_law 625 = .ok (.iadd, 1) := by decide +kernel
theorem dL_law_626 : decode cL_law 626 = .ok (.iaload, 1) := by decide +kernel
theorem dL_law_627 : decode cL_law 627 = .ok (.aload_n 3, 1) := by decide +kernel
theorem dL_law_628 : decode cL_law 628 = .ok (.invokestatic 204, 3) := by decide +kernel
theorem dL_law_631 : decode cL_law 631 = .ok (.istore 5, 2) := by decide +kernel
theorem dL_law_633 : decode cL_law 633 = .ok (.aload_n 2, 1) := by decide +kernel
theorem dL_law_634 : decode cL_law 634 = .ok (.aload_n 0, 1) := by decide +kernel
theorem dL_law_635 : decode cL_law 635 = .ok (.iload 4, 2) := by decide +kernel
theorem dL_law_637 : decode cL_law 637 = .ok (.iconst 1, 1) := by decide +kernel
theorem dL_law_638 : decode cL_law 638 = .ok (.iadd, 1) := by decide +kernel
theorem dL_law_639 : decode cL_law 639 = .ok (.iaload, 1) := by decide +kernel
theorem dL_law_640 : decode cL_law 640 = .ok (.aload_n 0, 1) := by decide +kernel
theorem dL_law_641 : decode cL_law 641 = .ok (.iload 4, 2) := by decide +kernel
theorem dL_law_643 : decode cL_law 643 = .ok (.iconst 2, 1) := by decide +kernel
theorem dL_law_644 : decode cL_law 644 = .ok (.iadd, 1) := by decide +kernel
theorem dL_law_645 : decode cL_law 645 = .ok (.iaload, 1) := by decide +kernel
theorem dL_law_646 : decode cL_law 646 = .ok (.invokevirtual 206, 3) := by decide +kernel
theorem dL_law_649 : decode cL_law 649 = .ok (.istore 6, 2) := by decide +kernel
theorem dL_law_651 : decode cL_law 651 = .ok (.aload_n 2, 1) := by decide +kernel
theorem dL_law_652 : decode cL_law 652 = .ok (.invokevirtual 188, 3) := by decide +kernel
theorem dL_law_655 : decode cL_law 655 = .ok (.iload 5, 2) := by decide +kernel
theorem dL_law_657 : decode cL_law 657 = .ok (.if_icmp .eq 5, 3) := by decide +kernel
theorem dL_law_660 : decode cL_law 660 = .ok (.iconst 0, 1) := by decide +kernel
theorem dL_law_661 : decode cL_law 661 = .ok (.ireturn, 1) := by decide +kernel
theorem dL_law_662 : decode cL_law 662 = .ok (.iload 5, 2) := by decide +kernel
theorem dL_law_664 : decode cL_law 664 = .ok (.ifCond .ne 22, 3) := by decide +kernel
theorem dL_law_667 : decode cL_law 667 = .ok (.aload_n 3, 1) := by decide +kernel
theorem dL_law_668 : decode cL_law 668 = .ok (.iconst 0, 1) := by decide +kernel
theorem dL_law_669 : decode cL_law 669 = .ok (.laload, 1) := by decide +kernel
theorem dL_law_670 : decode cL_law 670 = .ok (.iload 6, 2) := by decide +kernel
theorem dL_law_672 : decode cL_law 672 = .ok (.ifCond .eq 7, 3) := by decide +kernel
theorem dL_law_675 : decode cL_law 675 = .ok (.lconst 1, 1) := by decide +kernel
theorem dL_law_676 : decode cL_law 676 = .ok (.goto 4, 3) := by decide +kernel
theorem dL_law_679 : decode cL_law 679 = .ok (.lconst 0, 1) := by decide +kernel
theorem dL_law_680 : decode cL_law 680 = .ok (.lcmp, 1) := by decide +kernel
theorem dL_law_681 : decode cL_law 681 = .ok (.ifCond .eq 5, 3) := by decide +kernel
theorem dL_law_684 : decode cL_law 684 = .ok (.iconst 0, 1) := by decide +kernel
theorem dL_law_685 : decode cL_law 685 = .ok (.ireturn, 1) := by decide +kernel
theorem dL_law_686 : decode cL_law 686 = .ok (.goto 2974, 3) := by decide +kernel
theorem dL_law_689 : decode cL_law 689 = .ok (.aload_n 1, 1) := by decide +kernel
theorem dL_law_690 : decode cL_law 690 = .ok (.aload_n 0, 1) := by decide +kernel
theorem dL_law_691 : decode cL_law 691 = .ok (.iload 4, 2) := by decide +kernel
theorem dL_law_693 : decode cL_law 693 = .ok (.iconst 1, 1) := by decide +kernel
theorem dL_law_694 : decode cL_law 694 = .ok (.iadd, 1) := by decide +kernel
theorem dL_law_695 : decode cL_law 695 = .ok (.iaload, 1) := by decide +kernel
theorem dL_law_696 : decode cL_law 696 = .ok (.aload_n 3, 1) := by decide +kernel
theorem dL_law_697 : decode cL_law 697 = .ok (.invokestatic 207, 3) := by decide +kernel
theorem dL_law_700 : decode cL_law 700 = .ok (.istore 5, 2) := by decide +kernel
theorem dL_law_702 : decode cL_law 702 = .ok (.aload_n 2, 1) := by decide +kernel
theorem dL_law_703 : decode cL_law 703 = .ok (.aload_n 0, 1) := by decide +kernel
theorem dL_law_704 : decode cL_law 704 = .ok (.iload 4, 2) := by decide +kernel
theorem dL_law_706 : decode cL_law 706 = .ok (.iconst 1, 1) := by decide +kernel
theorem dL_law_707 : decode cL_law 707 = .ok (.iadd, 1) := by decide +kernel
theorem dL_law_708 : decode cL_law 708 = .ok (.iaload, 1) := by decide +kernel
theorem dL_law_709 : decode cL_law 709 = .ok (.invokevirtual 209, 3) := by decide +kernel
theorem dL_law_712 : decode cL_law 712 = .ok (.istore 6, 2) := by decide +kernel
theorem dL_law_714 : decode cL_law 714 = .ok (.aload_n 2, 1) := by decide +kernel
theorem dL_law_715 : decode cL_law 715 = .ok (.invokevirtual 188, 3) := by decide +kernel
theorem dL_law_718 : decode cL_law 718 = .ok (.iload 5, 2) := by decide +kernel
theorem dL_law_720 : decode cL_law 720 = .ok (.if_icmp .eq 5, 3) := by decide +kernel
theorem dL_law_723 : decode cL_law 723 = .ok (.iconst 0, 1) := by decide +kernel
theorem dL_law_724 : decode cL_law 724 = .ok (.ireturn, 1) := by decide +kernel
theorem dL_law_725 : decode cL_law 725 = .ok (.iload 5, 2) := by decide +kernel
theorem dL_law_727 : decode cL_law 727 = .ok (.ifCond .ne 15, 3) := by decide +kernel
theorem dL_law_730 : decode cL_law 730 = .ok (.aload_n 3, 1) := by decide +kernel
theorem dL_law_731 : decode cL_law 731 = .ok (.iconst 0, 1) := by decide +kernel
theorem dL_law_732 : decode cL_law 732 = .ok (.laload, 1) := by decide +kernel
theorem dL_law_733 : decode cL_law 733 = .ok (.iload 6, 2) := by decide +kernel
theorem dL_law_735 : decode cL_law 735 = .ok (.i2l, 1) := by decide +kernel
theorem dL_law_736 : decode cL_law 736 = .ok (.lcmp, 1) := by decide +kernel
theorem dL_law_737 : decode cL_law 737 = .ok (.ifCond .eq 5, 3) := by decide +kernel
theorem dL_law_740 : decode cL_law 740 = .ok (.iconst 0, 1) := by decide +kernel
theorem dL_law_741 : decode cL_law 741 = .ok (.ireturn, 1) := by decide +kernel
theorem dL_law_742 : decode cL_law 742 = .ok (.goto 2918, 3) := by decide +kernel
theorem dL_law_745 : decode cL_law 745 = .ok (.aload_n 1, 1) := by decide +kernel
theorem dL_law_746 : decode cL_law 746 = .ok (.aload_n 0, 1) := by decide +kernel
theorem dL_law_747 : decode cL_law 747 = .ok (.iload 4, 2) := by decide +kernel
theorem dL_law_749 : decode cL_law 749 = .ok (.iconst 1, 1) := by decide +kernel
theorem dL_law_750 : decode cL_law 750 = .ok (.iadd, 1) := by decide +kernel
theorem dL_law_751 : decode cL_law 751 = .ok (.iaload, 1) := by decide +kernel
theorem dL_law_752 : decode cL_law 752 = .ok (.aload_n 3, 1) := by decide +kernel
theorem dL_law_753 : decode cL_law 753 = .ok (.invokestatic 210, 3) := by decide +kernel
theorem dL_law_756 : decode cL_law 756 = .ok (.istore 5, 2) := by decide +kernel
theorem dL_law_758 : decode cL_law 758 = .ok (.aload_n 2, 1) := by decide +kernel
theorem dL_law_759 : decode cL_law 759 = .ok (.aload_n 0, 1) := by decide +kernel
theorem dL_law_760 : decode cL_law 760 = .ok (.iload 4, 2) := by decide +kernel
theorem dL_law_762 : decode cL_law 762 = .ok (.iconst 1, 1) := by decide +kernel
theorem dL_law_763 : decode cL_law 763 = .ok (.iadd, 1) := by decide +kernel
theorem dL_law_764 : decode cL_law 764 = .ok (.iaload, 1) := by decide +kernel
theorem dL_law_765 : decode cL_law 765 = .ok (.invokevirtual 212, 3) := by decide +kernel
theorem dL_law_768 : decode cL_law 768 = .ok (.istore 6, 2) := by decide +kernel
theorem dL_law_770 : decode cL_law 770 = .ok (.aload_n 2, 1) := by decide +kernel
theorem dL_law_771 : decode cL_law 771 = .ok (.invokevirtual 188, 3) := by decide +kernel
theorem dL_law_774 : decode cL_law 774 = .ok (.iload 5, 2) := by decide +kernel
theorem dL_law_776 : decode cL_law 776 = .ok (.if_icmp .eq 5, 3) := by decide +kernel
theorem dL_law_779 : decode cL_law 779 = .ok (.iconst 0, 1) := by decide +kernel
theorem dL_law_780 : decode cL_law 780 = .ok (.ireturn, 1) := by decide +kernel
theorem dL_law_781 : decode cL_law 781 = .ok (.iload 5, 2) := by decide +kernel
theorem dL_law_783 : decode cL_law 783 = .ok (.ifCond .ne 15, 3) := by decide +kernel
theorem dL_law_786 : decode cL_law 786 = .ok (.aload_n 3, 1) := by decide +kernel
theorem dL_law_787 : decode cL_law 787 = .ok (.iconst 0, 1) := by decide +kernel
theorem dL_law_788 : decode cL_law 788 = .ok (.laload, 1) := by decide +kernel
theorem dL_law_789 : decode cL_law 789 = .ok (.iload 6, 2) := by decide +kernel
theorem dL_law_791 : decode cL_law 791 = .ok (.i2l, 1) := by decide +kernel
theorem dL_law_792 : decode cL_law 792 = .ok (.lcmp, 1) := by decide +kernel
theorem dL_law_793 : decode cL_law 793 = .ok (.ifCond .eq 5, 3) := by decide +kernel
theorem dL_law_796 : decode cL_law 796 = .ok (.iconst 0, 1) := by decide +kernel
theorem dL_law_797 : decode cL_law 797 = .ok (.ireturn, 1) := by decide +kernel
theorem dL_law_798 : decode cL_law 798 = .ok (.goto 2862, 3) := by decide +kernel
theorem dL_law_801 : decode cL_law 801 = .ok (.aload_n 1, 1) := by decide +kernel
theorem dL_law_802 : decode cL_law 802 = .ok (.invokevirtual 213, 3) := by decide +kernel
theorem dL_law_805 : decode cL_law 805 = .ok (.aload_n 2, 1) := by decide +kernel
theorem dL_law_806 : decode cL_law 806 = .ok (.invokevirtual 216, 3) := by decide +kernel
theorem dL_law_809 : decode cL_law 809 = .ok (.if_icmp .eq 2851, 3) := by decide +kernel
theorem dL_law_812 : decode cL_law 812 = .ok (.iconst 0, 1) := by decide +kernel
theorem dL_law_813 : decode cL_law 813 = .ok (.ireturn, 1) := by decide +kernel
theorem dL_law_814 : decode cL_law 814 = .ok (.aload_n 1, 1) := by decide +kernel
theorem dL_law_815 : decode cL_law 815 = .ok (.aload_n 0, 1) := by decide +kernel
theorem dL_law_816 : decode cL_law 816 = .ok (.iload 4, 2) := by decide +kernel
theorem dL_law_818 : decode cL_law 818 = .ok (.iconst 1, 1) := by decide +kernel
theorem dL_law_819 : decode cL_law 819 = .ok (.iadd, 1) := by decide +kernel
theorem dL_law_820 : decode cL_law 820 = .ok (.iaload, 1) := by decide +kernel
theorem dL_law_821 : decode cL_law 821 = .ok (.aload_n 0, 1) := by decide +kernel
theorem dL_law_822 : decode cL_law 822 = .ok (.iload 4, 2) := by decide +kernel
theorem dL_law_824 : decode cL_law 824 = .ok (.iconst 2, 1) := by decide +kernel
theorem dL_law_825 : decode cL_law 825 = .ok (.iadd, 1) := by decide +kernel
theorem dL_law_826 : decode cL_law 826 = .ok (.iaload, 1) := by decide +kernel
theorem dL_law_827 : decode cL_law 827 = .ok (.aload_n 3, 1) := by decide +kernel
theorem dL_law_828 : decode cL_law 828 = .ok (.invokestatic 217, 3) := by decide +kernel
theorem dL_law_831 : decode cL_law 831 = .ok (.istore 5, 2) := by decide +kernel
theorem dL_law_833 : decode cL_law 833 = .ok (.aload_n 2, 1) := by decide +kernel
theorem dL_law_834 : decode cL_law 834 = .ok (.aload_n 0, 1) := by decide +kernel
theorem dL_law_835 : decode cL_law 835 = .ok (.iload 4, 2) := by decide +kernel
theorem dL_law_837 : decode cL_law 837 = .ok (.iconst 1, 1) := by decide +kernel
theorem dL_law_838 : decode cL_law 838 = .ok (.iadd, 1) := by decide +kernel
theorem dL_law_839 : decode cL_law 839 = .ok (.iaload, 1) := by decide +kernel
theorem dL_law_840 : decode cL_law 840 = .ok (.aload_n 0, 1) := by decide +kernel
theorem dL_law_841 : decode cL_law 841 = .ok (.iload 4, 2) := by decide +kernel
theorem dL_law_843 : decode cL_law 843 = .ok (.iconst 2, 1) := by decide +kernel
theorem dL_law_844 : decode cL_law 844 = .ok (.iadd, 1) := by decide +kernel
theorem dL_law_845 : decode cL_law 845 = .ok (.iaload, 1) := by decide +kernel
theorem dL_law_846 : decode cL_law 846 = .ok (.invokevirtual 219, 3) := by decide +kernel
theorem dL_law_849 : decode cL_law 849 = .ok (.istore 6, 2) := by decide +kernel
theorem dL_law_851 : decode cL_law 851 = .ok (.aload_n 2, 1) := by decide +kernel
theorem dL_law_852 : decode cL_law 852 = .ok (.invokevirtual 188, 3) := by decide +kernel
theorem dL_law_855 : decode cL_law 855 = .ok (.iload 5, 2) := by decide +kernel
theorem dL_law_857 : decode cL_law 857 = .ok (.if_icmp .eq 5, 3) := by decide +kernel
theorem dL_law_860 : decode cL_law 860 = .ok (.iconst 0, 1) := by decide +kernel
theorem dL_law_861 : decode cL_law 861 = .ok (.ireturn, 1) := by decide +kernel
theorem dL_law_862 : decode cL_law 862 = .ok (.iload 5, 2) := by decide +kernel
theorem dL_law_864 : decode cL_law 864 = .ok (.ifCond .ne 22, 3) := by decide +kernel
theorem dL_law_867 : decode cL_law 867 = .ok (.aload_n 3, 1) := by decide +kernel
theorem dL_law_868 : decode cL_law 868 = .ok (.iconst 0, 1) := by decide +kernel
theorem dL_law_869 : decode cL_law 869 = .ok (.laload, 1) := by decide +kernel
theorem dL_law_870 : decode cL_law 870 = .ok (.iload 6, 2) := by decide +kernel
theorem dL_law_872 : decode cL_law 872 = .ok (.ifCond .eq 7, 3) := by decide +kernel
theorem dL_law_875 : decode cL_law 875 = .ok (.lconst 1, 1) := by decide +kernel
theorem dL_law_876 : decode cL_law 876 = .ok (.goto 4, 3) := by decide +kernel
theorem dL_law_879 : decode cL_law 879 = .ok (.lconst 0, 1) := by decide +kernel
theorem dL_law_880 : decode cL_law 880 = .ok (.lcmp, 1) := by decide +kernel
theorem dL_law_881 : decode cL_law 881 = .ok (.ifCond .eq 5, 3) := by decide +kernel
theorem dL_law_884 : decode cL_law 884 = .ok (.iconst 0, 1) := by decide +kernel
theorem dL_law_885 : decode cL_law 885 = .ok (.ireturn, 1) := by decide +kernel
theorem dL_law_886 : decode cL_law 886 = .ok (.goto 2774, 3) := by decide +kernel
theorem dL_law_889 : decode cL_law 889 = .ok (.aload_n 1, 1) := by decide +kernel
theorem dL_law_890 : decode cL_law 890 = .ok (.invokevirtual 220, 3) := by decide +kernel
theorem dL_law_893 : decode cL_law 893 = .ok (.aload_n 2, 1) := by decide +kernel
theorem dL_law_894 : decode cL_law 894 = .ok (.invokevirtual 223, 3) := by decide +kernel
theorem dL_law_897 : decode cL_law 897 = .ok (.if_icmp .eq 2763, 3) := by decide +kernel
theorem dL_law_900 : decode cL_law 900 = .ok (.iconst 0, 1) := by decide +kernel
theorem dL_law_901 : decode cL_law 901 = .ok (.ireturn, 1) := by decide +kernel
theorem dL_law_902 : decode cL_law 902 = .ok (.aload_n 1, 1) := by decide +kernel
theorem dL_law_903 : decode cL_law 903 = .ok (.aload_n 0, 1) := by decide +kernel
theorem dL_law_904 : decode cL_law 904 = .ok (.iload 4, 2) := by decide +kernel
theorem dL_law_906 : decode cL_law 906 = .ok (.iconst 1, 1) := by decide +kernel
theorem dL_law_907 : decode cL_law 907 = .ok (.iadd, 1) := by decide +kernel
theorem dL_law_908 : decode cL_law 908 = .ok (.iaload, 1) := by decide +kernel
theorem dL_law_909 : decode cL_law 909 = .ok (.aload_n 3, 1) := by decide +kernel
theorem dL_law_910 : decode cL_law 910 = .ok (.invokestatic 224, 3) := by decide +kernel
theorem dL_law_913 : decode cL_law 913 = .ok (.istore 5, 2) := by decide +kernel
theorem dL_law_915 : decode cL_law 915 = .ok (.aload_n 2, 1) := by decide +kernel
theorem dL_law_916 : decode cL_law 916 = .ok (.aload_n 0, 1) := by decide +kernel
theorem dL_law_917 : decode cL_law 917 = .ok (.iload 4, 2) := by decide +kernel
theorem dL_law_919 : decode cL_law 919 = .ok (.iconst 1, 1) := by decide +kernel
theorem dL_law_920 : decode cL_law 920 = .ok (.iadd, 1) := by decide +kernel
theorem dL_law_921 : decode cL_law 921 = .ok (.iaload, 1) := by decide +kernel
theorem dL_law_922 : decode cL_law 922 = .ok (.invokevirtual 226, 3) := by decide +kernel
theorem dL_law_925 : decode cL_law 925 = .ok (.istore 6, 2) := by decide +kernel
theorem dL_law_927 : decode cL_law 927 = .ok (.aload_n 2, 1) := by decide +kernel
theorem dL_law_928 : decode cL_law 928 = .ok (.invokevirtual 188, 3) := by decide +kernel
theorem dL_law_931 : decode cL_law 931 = .ok (.iload 5, 2) := by decide +kernel
theorem dL_law_933 : decode cL_law 933 = .ok (.if_icmp .eq 5, 3) := by decide +kernel
theorem dL_law_936 : decode cL_law 936 = .ok (.iconst 0, 1) := by decide +kernel
theorem dL_law_937 : decode cL_law 937 = .ok (.ireturn, 1) := by decide +kernel
theorem dL_law_938 : decode cL_law 938 = .ok (.iload 5, 2) := by decide +kernel
theorem dL_law_940 : decode cL_law 940 = .ok (.ifCond .ne 15, 3) := by decide +kernel
theorem dL_law_943 : decode cL_law 943 = .ok (.aload_n 3, 1) := by decide +kernel
theorem dL_law_944 : decode cL_law 944 = .ok (.iconst 0, 1) := by decide +kernel
theorem dL_law_945 : decode cL_law 945 = .ok (.laload, 1) := by decide +kernel
theorem dL_law_946 : decode cL_law 946 = .ok (.iload 6, 2) := by decide +kernel
theorem dL_law_948 : decode cL_law 948 = .ok (.i2l, 1) := by decide +kernel
theorem dL_law_949 : decode cL_law 949 = .ok (.lcmp, 1) := by decide +kernel
theorem dL_law_950 : decode cL_law 950 = .ok (.ifCond .eq 5, 3) := by decide +kernel
theorem dL_law_953 : decode cL_law 953 = .ok (.iconst 0, 1) := by decide +kernel
theorem dL_law_954 : decode cL_law 954 = .ok (.ireturn, 1) := by decide +kernel
theorem dL_law_955 : decode cL_law 955 = .ok (.goto 2705, 3) := by decide +kernel
theorem dL_law_958 : decode cL_law 958 = .ok (.aload_n 1, 1) := by decide +kernel
theorem dL_law_959 : decode cL_law 959 = .ok (.aload_n 0, 1) := by decide +kernel
theorem dL_law_960 : decode cL_law 960 = .ok (.iload 4, 2) := by decide +kernel
theorem dL_law_962 : decode cL_law 962 = .ok (.iconst 1, 1) := by decide +kernel
theorem dL_law_963 : decode cL_law 963 = .ok (.iadd, 1) := by decide +kernel
theorem dL_law_964 : decode cL_law 964 = .ok (.iaload, 1) := by decide +kernel
theorem dL_law_965 : decode cL_law 965 = .ok (.aload_n 0, 1) := by decide +kernel
theorem dL_law_966 : decode cL_law 966 = .ok (.iload 4, 2) := by decide +kernel
theorem dL_law_968 : decode cL_law 968 = .ok (.iconst 2, 1) := by decide +kernel
theorem dL_law_969 : decode cL_law 969 = .ok (.iadd, 1) := by decide +kernel
theorem dL_law_970 : decode cL_law 970 = .ok (.iaload, 1) := by decide +kernel
theorem dL_law_971 : decode cL_law 971 = .ok (.aload_n 3, 1) := by decide +kernel
theorem dL_law_972 : decode cL_law 972 = .ok (.invokestatic 227, 3) := by decide +kernel
theorem dL_law_975 : decode cL_law 975 = .ok (.istore 5, 2) := by decide +kernel
theorem dL_law_977 : decode cL_law 977 = .ok (.aload_n 2, 1) := by decide +kernel
theorem dL_law_978 : decode cL_law 978 = .ok (.aload_n 0, 1) := by decide +kernel
theorem dL_law_979 : decode cL_law 979 = .ok (.iload 4, 2) := by decide +kernel
theorem dL_law_981 : decode cL_law 981 = .ok (.iconst 1, 1) := by decide +kernel
theorem dL_law_982 : decode cL_law 982 = .ok (.iadd, 1) := by decide +kernel
theorem dL_law_983 : decode cL_law 983 = .ok (.iaload, 1) := by decide +kernel
theorem dL_law_984 : decode cL_law 984 = .ok (.aload_n 0, 1) := by decide +kernel
theorem dL_law_985 : decode cL_law 985 = .ok (.iload 4, 2) := by decide +kernel
theorem dL_law_987 : decode cL_law 987 = .ok (.iconst 2, 1) := by decide +kernel
theorem dL_law_988 : decode cL_law 988 = .ok (.iadd, 1) := by decide +kernel
theorem dL_law_989 : decode cL_law 989 = .ok (.iaload, 1) := by decide +kernel
theorem dL_law_990 : decode cL_law 990 = .ok (.invokevirtual 229, 3) := by decide +kernel
theorem dL_law_993 : decode cL_law 993 = .ok (.istore 6, 2) := by decide +kernel
theorem dL_law_995 : decode cL_law 995 = .ok (.aload_n 2, 1) := by decide +kernel
theorem dL_law_996 : decode cL_law 996 = .ok (.invokevirtual 188, 3) := by decide +kernel
theorem dL_law_999 : decode cL_law 999 = .ok (.iload 5, 2) := by decide +kernel
def f_law_c0 (xs : Nat → Int32) (LL : Nat) (i : Int32) (u v w m : St) (f : Nat → Int64) : Option ((Int32 × St × St × St × St × (Nat → Int64)) ⊕ ((Int32 × St × St × St × St × (Nat → Int64)) ⊕ Int32)) := gd (inb (i + 1) LL) (bd (f_L_addRelation u v w f (xs (i + 1).toNatClampNeg)) (fun r1 => gd (inb (i + 1) LL) (bd (f_X2_addRelation m (xs (i + 1).toNatClampNeg)) (fun r2 => bd (f_X2_thrown r2.2) (fun r3 => if r3 = r1.1 then if r1.1 = 0 then gd (inb 0 1) (if (lg_cmp (r1.2.2 (0 : Int32).toNatClampNeg) r2.1.toInt64) = 0 then some (.inl ((i + 6), u, r1.2.1, w, r2.2, r1.2.2)) else some (.inr (.inr 0))) else some (.inl ((i + 6), u, r1.2.1, w, r2.2, r1.2.2)) else some (.inr (.inr 0)))))))
def f_law_c1 (xs : Nat → Int32) (LL : Nat) (i : Int32) (u v w m : St) (f : Nat → Int64) : Option ((Int32 × St × St × St × St × (Nat → Int64)) ⊕ ((Int32 × St × St × St × St × (Nat → Int64)) ⊕ Int32)) := gd (inb (i + 1) LL) (gd (inb (i + 2) LL) (bd (f_L_addClause u v w f (xs (i + 1).toNatClampNeg) (xs (i + 2).toNatClampNeg)) (fun r7 => gd (inb (i + 1) LL) (gd (inb (i + 2) LL) (bd (f_X2_addClause m (xs (i + 1).toNatClampNeg) (xs (i + 2).toNatClampNeg)) (fun r8 => bd (f_X2_thrown r8.2) (fun r9 => if r9 = r7.1 then if r7.1 = 0 then gd (inb 0 1) (if (lg_cmp (r7.2.2 (0 : Int32).toNatClampNeg) r8.1.toInt64) = 0 then some (.inl ((i + 6), u, r7.2.1, w, r8.2, r7.2.2)) else some (.inr (.inr 0))) else some (.inl ((i + 6), u, r7.2.1, w, r8.2, r7.2.2)) else some (.inr (.inr 0)))))))))
def f_law_c2 (xs : Nat → Int32) (LL : Nat) (i : Int32) (u v w m : St) (f : Nat → Int64) : Option ((Int32 × St × St × St × St × (Nat → Int64)) ⊕ ((Int32 × St × St × St × St × (Nat → Int64)) ⊕ Int32)) := gd (inb (i + 1) LL) (gd (inb (i + 2) LL) (bd (f_L_addParity u v w f (xs (i + 1).toNatClampNeg) (xs (i + 2).toNatClampNeg)) (fun r13 => gd (inb (i + 1) LL) (gd (inb (i + 2) LL) (bd (f_X2_addParity m (xs (i + 1).toNatClampNeg) (xs (i + 2).toNatClampNeg)) (fun r14 => bd (f_X2_thrown r14.2) (fun r15 => if r15 = r13.1 then if r13.1 = 0 then gd (inb 0 1) (if (lg_cmp (r13.2.2 (0 : Int32).toNatClampNeg) r14.1.toInt64) = 0 then some (.inl ((i + 6), u, r13.2.1, w, r14.2, r13.2.2)) else some (.inr (.inr 0))) else some (.inl ((i + 6), u, r13.2.1, w, r14.2, r13.2.2)) else some (.inr (.inr 0)))))))))
def f_law_c3 (xs : Nat → Int32) (LL : Nat) (i : Int32) (u v w m : St) (f : Nat → Int64) : Option ((Int32 × St × St × St × St × (Nat → Int64)) ⊕ ((Int32 × St × St × St × St × (Nat → Int64)) ⊕ Int32)) := gd (inb (i + 1) LL) (gd (inb (i + 2) LL) (bd (f_L_addTuple u v w f (xs (i + 1).toNatClampNeg) (xs (i + 2).toNatClampNeg)) (fun r19 => gd (inb (i + 1) LL) (gd (inb (i + 2) LL) (bd (f_X2_addTuple m (xs (i + 1).toNatClampNeg) (xs (i + 2).toNatClampNeg)) (fun r20 => bd (f_X2_thrown r20.2) (fun r21 => if r21 = r19.1 then if r19.1 = 0 then gd (inb 0 1) (if r20.1 = 0 then if (lg_cmp (r19.2.2 (0 : Int32).toNatClampNeg) 0) = 0 then some (.inl ((i + 6), u, r19.2.1, w, r20.2, r19.2.2)) else some (.inr (.inr 0)) else if (lg_cmp (r19.2.2 (0 : Int32).toNatClampNeg) 1) = 0 then some (.inl ((i + 6), u, r19.2.1, w, r20.2, r19.2.2)) else some (.inr (.inr 0))) else some (.inl ((i + 6), u, r19.2.1, w, r20.2, r19.2.2)) else some (.inr (.inr 0)))))))))
def f_law_c4 (xs : Nat → Int32) (LL : Nat) (i : Int32) (u v w m : St) (f : Nat → Int64) : Option ((Int32 × St × St × St × St × (Nat → Int64)) ⊕ ((Int32 × St × St × St × St × (Nat → Int64)) ⊕ Int32)) := gd (inb (i + 1) LL) (gd (inb (i + 2) LL) (bd (f_L_removeTuple u v w f (xs (i + 1).toNatClampNeg) (xs (i + 2).toNatClampNeg)) (fun r25 => gd (inb (i + 1) LL) (gd (inb (i + 2) LL) (bd (f_X2_removeTuple m (xs (i + 1).toNatClampNeg) (xs (i + 2).toNatClampNeg)) (fun r26 => bd (f_X2_thrown r26.2) (fun r27 => if r27 = r25.1 then if r25.1 = 0 then gd (inb 0 1) (if r26.1 = 0 then if (lg_cmp (r25.2.2 (0 : Int32).toNatClampNeg) 0) = 0 then some (.inl ((i + 6), u, r25.2.1, w, r26.2, r25.2.2)) else some (.inr (.inr 0)) else if (lg_cmp (r25.2.2 (0 : Int32).toNatClampNeg) 1) = 0 then some (.inl ((i + 6), u, r25.2.1, w, r26.2, r25.2.2)) else some (.inr (.inr 0))) else some (.inl ((i + 6), u, r25.2.1, w, r26.2, r25.2.2)) else some (.inr (.inr 0)))))))))
def f_law_c5 (xs : Nat → Int32) (LL : Nat) (i : Int32) (u v w m : St) (f : Nat → Int64) : Option ((Int32 × St × St × St × St × (Nat → Int64)) ⊕ ((Int32 × St × St × St × St × (Nat → Int64)) ⊕ Int32)) := gd (inb (i + 1) LL) (gd (inb (i + 2) LL) (bd (f_L_contains u v w f (xs (i + 1).toNatClampNeg) (xs (i + 2).toNatClampNeg)) (fun r31 => gd (inb (i + 1) LL) (gd (inb (i + 2) LL) (bd (f_X2_contains m (xs (i + 1).toNatClampNeg) (xs (i + 2).toNatClampNeg)) (fun r32 => bd (f_X2_thrown r32.2) (fun r33 => if r33 = r31.1 then if r31.1 = 0 then gd (inb 0 1) (if r32.1 = 0 then if (lg_cmp (r31.2 (0 : Int32).toNatClampNeg) 0) = 0 then some (.inl ((i + 6), u, v, w, r32.2, r31.2)) else some (.inr (.inr 0)) else if (lg_cmp (r31.2 (0 : Int32).toNatClampNeg) 1) = 0 then some (.inl ((i + 6), u, v, w, r32.2, r31.2)) else some (.inr (.inr 0))) else some (.inl ((i + 6), u, v, w, r32.2, r31.2)) else some (.inr (.inr 0)))))))))
def f_law_c6 (xs : Nat → Int32) (LL : Nat) (i : Int32) (u v w m : St) (f : Nat → Int64) : Option ((Int32 × St × St × St × St × (Nat → Int64)) ⊕ ((Int32 × St × St × St × St × (Nat → Int64)) ⊕ Int32)) := gd (inb (i + 1) LL) (bd (f_L_tupleCount u v w f (xs (i + 1).toNatClampNeg)) (fun r37 => gd (inb (i + 1) LL) (bd (f_X2_tupleCount m (xs (i + 1).toNatClampNeg)) (fun r38 => bd (f_X2_thrown r38.2) (fun r39 => if r39 = r37.1 then if r37.1 = 0 then gd (inb 0 1) (if (lg_cmp (r37.2 (0 : Int32).toNatClampNeg) r38.1.toInt64) = 0 then some (.inl ((i + 6), u, v, w, r38.2, r37.2)) else some (.inr (.inr 0))) else some (.inl ((i + 6), u, v, w, r38.2, r37.2)) else some (.inr (.inr 0)))))))
def f_law_c7 (xs : Nat → Int32) (LL : Nat) (i : Int32) (u v w m : St) (f : Nat → Int64) : Option ((Int32 × St × St × St × St × (Nat → Int64)) ⊕ ((Int32 × St × St × St × St × (Nat → Int64)) ⊕ Int32)) := gd (inb (i + 1) LL) (bd (f_L_arity u v w f (xs (i + 1).toNatClampNeg)) (fun r43 => gd (inb (i + 1) LL) (bd (f_X2_arity m (xs (i + 1).toNatClampNeg)) (fun r44 => bd (f_X2_thrown r44.2) (fun r45 => if r45 = r43.1 then if r43.1 = 0 then gd (inb 0 1) (if (lg_cmp (r43.2 (0 : Int32).toNatClampNeg) r44.1.toInt64) = 0 then some (.inl ((i + 6), u, v, w, r44.2, r43.2)) else some (.inr (.inr 0))) else some (.inl ((i + 6), u, v, w, r44.2, r43.2)) else some (.inr (.inr 0)))))))
def f_law_c8 (xs : Nat → Int32) (LL : Nat) (i : Int32) (u v w m : St) (f : Nat → Int64) : Option ((Int32 × St × St × St × St × (Nat → Int64)) ⊕ ((Int32 × St × St × St × St × (Nat → Int64)) ⊕ Int32)) := bd (f_X1_relationCount u v w) (fun r49 => bd (f_X2_relationCount m) (fun r50 => if r49 = r50.1 then some (.inl ((i + 6), u, v, w, r50.2, f)) else some (.inr (.inr 0))))
def f_law_c9 (xs : Nat → Int32) (LL : Nat) (i : Int32) (u v w m : St) (f : Nat → Int64) : Option ((Int32 × St × St × St × St × (Nat → Int64)) ⊕ ((Int32 × St × St × St × St × (Nat → Int64)) ⊕ Int32)) := gd (inb (i + 1) LL) (gd (inb (i + 2) LL) (bd (f_L_areEqual u v w f (xs (i + 1).toNatClampNeg) (xs (i + 2).toNatClampNeg)) (fun r53 => gd (inb (i + 1) LL) (gd (inb (i + 2) LL) (bd (f_X2_areEqual m (xs (i + 1).toNatClampNeg) (xs (i + 2).toNatClampNeg)) (fun r54 => bd (f_X2_thrown r54.2) (fun r55 => if r55 = r53.1 then if r53.1 = 0 then gd (inb 0 1) (if r54.1 = 0 then if (lg_cmp (r53.2 (0 : Int32).toNatClampNeg) 0) = 0 then some (.inl ((i + 6), u, v, w, r54.2, r53.2)) else some (.inr (.inr 0)) else if (lg_cmp (r53.2 (0 : Int32).toNatClampNeg) 1) = 0 then some (.inl ((i + 6), u, v, w, r54.2, r53.2)) else some (.inr (.inr 0))) else some (.inl ((i + 6), u, v, w, r54.2, r53.2)) else some (.inr (.inr 0)))))))))
def f_law_c10 (xs : Nat → Int32) (LL : Nat) (i : Int32) (u v w m : St) (f : Nat → Int64) : Option ((Int32 × St × St × St × St × (Nat → Int64)) ⊕ ((Int32 × St × St × St × St × (Nat → Int64)) ⊕ Int32)) := bd (f_X1_clear u v w) (fun r59 => bd (f_X2_clear m) (fun r60 => if r59.1 = r60.1 then some (.inl ((i + 6), u, r59.2, w, r60.2, f)) else some (.inr (.inr 0))))
def f_law_c11 (xs : Nat → Int32) (LL : Nat) (i : Int32) (u v w m : St) (f : Nat → Int64) : Option ((Int32 × St × St × St × St × (Nat → Int64)) ⊕ ((Int32 × St × St × St × St × (Nat → Int64)) ⊕ Int32)) := gd (inb (i + 1) LL) (bd (f_L_addComplement u v w f (xs (i + 1).toNatClampNeg)) (fun r63 => gd (inb (i + 1) LL) (bd (f_X2_addComplement m (xs (i + 1).toNatClampNeg)) (fun r64 => bd (f_X2_thrown r64.2) (fun r65 => if r65 = r63.1 then if r63.1 = 0 then gd (inb 0 1) (if (lg_cmp (r63.2.2 (0 : Int32).toNatClampNeg) r64.1.toInt64) = 0 then some (.inl ((i + 6), u, r63.2.1, w, r64.2, r63.2.2)) else some (.inr (.inr 0))) else some (.inl ((i + 6), u, r63.2.1, w, r64.2, r63.2.2)) else some (.inr (.inr 0)))))))
def f_law_c12 (xs : Nat → Int32) (LL : Nat) (i : Int32) (u v w m : St) (f : Nat → Int64) : Option ((Int32 × St × St × St × St × (Nat → Int64)) ⊕ ((Int32 × St × St × St × St × (Nat → Int64)) ⊕ Int32)) := gd (inb (i + 1) LL) (gd (inb (i + 2) LL) (bd (f_L_addIntersection u v w f (xs (i + 1).toNatClampNeg) (xs (i + 2).toNatClampNeg)) (fun r69 => gd (inb (i + 1) LL) (gd (inb (i + 2) LL) (bd (f_X2_addIntersection m (xs (i + 1).toNatClampNeg) (xs (i + 2).toNatClampNeg)) (fun r70 => bd (f_X2_thrown r70.2) (fun r71 => if r71 = r69.1 then if r69.1 = 0 then gd (inb 0 1) (if (lg_cmp (r69.2.2 (0 : Int32).toNatClampNeg) r70.1.toInt64) = 0 then some (.inl ((i + 6), u, r69.2.1, w, r70.2, r69.2.2)) else some (.inr (.inr 0))) else some (.inl ((i + 6), u, r69.2.1, w, r70.2, r69.2.2)) else some (.inr (.inr 0)))))))))
def f_law_c13 (xs : Nat → Int32) (LL : Nat) (i : Int32) (u v w m : St) (f : Nat → Int64) : Option ((Int32 × St × St × St × St × (Nat → Int64)) ⊕ ((Int32 × St × St × St × St × (Nat → Int64)) ⊕ Int32)) := gd (inb (i + 1) LL) (gd (inb (i + 2) LL) (bd (f_L_addProjection u v w f (xs (i + 1).toNatClampNeg) (xs (i + 2).toNatClampNeg)) (fun r75 => gd (inb (i + 1) LL) (gd (inb (i + 2) LL) (bd (f_X2_addProjection m (xs (i + 1).toNatClampNeg) (xs (i + 2).toNatClampNeg)) (fun r76 => bd (f_X2_thrown r76.2) (fun r77 => if r77 = r75.1 then if r75.1 = 0 then gd (inb 0 1) (if (lg_cmp (r75.2.2 (0 : Int32).toNatClampNeg) r76.1.toInt64) = 0 then some (.inl ((i + 6), u, r75.2.1, w, r76.2, r75.2.2)) else some (.inr (.inr 0))) else some (.inl ((i + 6), u, r75.2.1, w, r76.2, r75.2.2)) else some (.inr (.inr 0)))))))))
def f_law_c14 (xs : Nat → Int32) (LL : Nat) (i : Int32) (u v w m : St) (f : Nat → Int64) : Option ((Int32 × St × St × St × St × (Nat → Int64)) ⊕ ((Int32 × St × St × St × St × (Nat → Int64)) ⊕ Int32)) := gd (inb (i + 1) LL) (gd (inb (i + 2) LL) (gd (inb (i + 3) LL) (bd (f_L_addExchanged u v w f (xs (i + 1).toNatClampNeg) (xs (i + 2).toNatClampNeg) (xs (i + 3).toNatClampNeg)) (fun r81 => gd (inb (i + 1) LL) (gd (inb (i + 2) LL) (gd (inb (i + 3) LL) (bd (f_X2_addExchanged m (xs (i + 1).toNatClampNeg) (xs (i + 2).toNatClampNeg) (xs (i + 3).toNatClampNeg)) (fun r82 => bd (f_X2_thrown r82.2) (fun r83 => if r83 = r81.1 then if r81.1 = 0 then gd (inb 0 1) (if (lg_cmp (r81.2.2 (0 : Int32).toNatClampNeg) r82.1.toInt64) = 0 then some (.inl ((i + 6), u, r81.2.1, w, r82.2, r81.2.2)) else some (.inr (.inr 0))) else some (.inl ((i + 6), u, r81.2.1, w, r82.2, r81.2.2)) else some (.inr (.inr 0)))))))))))
def f_law_c15 (xs : Nat → Int32) (LL : Nat) (i : Int32) (u v w m : St) (f : Nat → Int64) : Option ((Int32 × St × St × St × St × (Nat → Int64)) ⊕ ((Int32 × St × St × St × St × (Nat → Int64)) ⊕ Int32)) := gd (inb (i + 1) LL) (gd (inb (i + 2) LL) (gd (inb (i + 3) LL) (gd (inb (i + 4) LL) (gd (inb (i + 5) LL) (bd (f_L_apply u v w f (xs (i + 1).toNatClampNeg) (xs (i + 2).toNatClampNeg) (xs (i + 3).toNatClampNeg) (xs (i + 4).toNatClampNeg) (xs (i + 5).toNatClampNeg)) (fun r87 => gd (inb (i + 1) LL) (gd (inb (i + 2) LL) (gd (inb (i + 3) LL) (gd (inb (i + 4) LL) (gd (inb (i + 5) LL) (bd (f_X2_apply m (xs (i + 1).toNatClampNeg) (xs (i + 2).toNatClampNeg) (xs (i + 3).toNatClampNeg) (xs (i + 4).toNatClampNeg) (xs (i + 5).toNatClampNeg)) (fun r88 => bd (f_X2_thrown r88.2) (fun r89 => if r89 = r87.1 then if r87.1 = 0 then gd (inb 0 1) (if (lg_cmp (r87.2 (0 : Int32).toNatClampNeg) r88.1.toInt64) = 0 then some (.inl ((i + 6), u, v, w, r88.2, r87.2)) else some (.inr (.inr 0))) else some (.inl ((i + 6), u, v, w, r88.2, r87.2)) else some (.inr (.inr 0)))))))))))))))
def f_law_c16 (xs : Nat → Int32) (LL : Nat) (i : Int32) (u v w m : St) (f : Nat → Int64) : Option ((Int32 × St × St × St × St × (Nat → Int64)) ⊕ ((Int32 × St × St × St × St × (Nat → Int64)) ⊕ Int32)) := gd (inb (i + 1) LL) (gd (inb (i + 2) LL) (gd (inb (i + 3) LL) (bd (f_L_preserves u v w f (xs (i + 1).toNatClampNeg) (xs (i + 2).toNatClampNeg) (xs (i + 3).toNatClampNeg)) (fun r93 => gd (inb (i + 1) LL) (gd (inb (i + 2) LL) (gd (inb (i + 3) LL) (bd (f_X2_preserves m (xs (i + 1).toNatClampNeg) (xs (i + 2).toNatClampNeg) (xs (i + 3).toNatClampNeg)) (fun r94 => bd (f_X2_thrown r94.2) (fun r95 => if r95 = r93.1 then if r93.1 = 0 then gd (inb 0 1) (if r94.1 = 0 then if (lg_cmp (r93.2 (0 : Int32).toNatClampNeg) 0) = 0 then some (.inl ((i + 6), u, v, w, r94.2, r93.2)) else some (.inr (.inr 0)) else if (lg_cmp (r93.2 (0 : Int32).toNatClampNeg) 1) = 0 then some (.inl ((i + 6), u, v, w, r94.2, r93.2)) else some (.inr (.inr 0))) else some (.inl ((i + 6), u, v, w, r94.2, r93.2)) else some (.inr (.inr 0)))))))))))
def f_law_c17 (xs : Nat → Int32) (LL : Nat) (i : Int32) (u v w m : St) (f : Nat → Int64) : Option ((Int32 × St × St × St × St × (Nat → Int64)) ⊕ ((Int32 × St × St × St × St × (Nat → Int64)) ⊕ Int32)) := gd (inb (i + 1) LL) (gd (inb (i + 2) LL) (bd (f_L_isPolymorphism u v w f (xs (i + 1).toNatClampNeg) (xs (i + 2).toNatClampNeg)) (fun r99 => gd (inb (i + 1) LL) (gd (inb (i + 2) LL) (bd (f_X2_isPolymorphism m (xs (i + 1).toNatClampNeg) (xs (i + 2).toNatClampNeg)) (fun r100 => bd (f_X2_thrown r100.2) (fun r101 => if r101 = r99.1 then if r99.1 = 0 then gd (inb 0 1) (if r100.1 = 0 then if (lg_cmp (r99.2 (0 : Int32).toNatClampNeg) 0) = 0 then some (.inl ((i + 6), u, v, w, r100.2, r99.2)) else some (.inr (.inr 0)) else if (lg_cmp (r99.2 (0 : Int32).toNatClampNeg) 1) = 0 then some (.inl ((i + 6), u, v, w, r100.2, r99.2)) else some (.inr (.inr 0))) else some (.inl ((i + 6), u, v, w, r100.2, r99.2)) else some (.inr (.inr 0)))))))))
def f_law_c18 (xs : Nat → Int32) (LL : Nat) (i : Int32) (u v w m : St) (f : Nat → Int64) : Option ((Int32 × St × St × St × St × (Nat → Int64)) ⊕ ((Int32 × St × St × St × St × (Nat → Int64)) ⊕ Int32)) := gd (inb (i + 1) LL) (bd (f_L_polymorphismCount u v w f (xs (i + 1).toNatClampNeg)) (fun r105 => gd (inb (i + 1) LL) (bd (f_X2_polymorphismCount m (xs (i + 1).toNatClampNeg)) (fun r106 => bd (f_X2_thrown r106.2) (fun r107 => if r107 = r105.1 then if r105.1 = 0 then gd (inb 0 1) (if (lg_cmp (r105.2 (0 : Int32).toNatClampNeg) r106.1.toInt64) = 0 then some (.inl ((i + 6), u, v, w, r106.2, r105.2)) else some (.inr (.inr 0))) else some (.inl ((i + 6), u, v, w, r106.2, r105.2)) else some (.inr (.inr 0)))))))
def f_law_c19 (xs : Nat → Int32) (LL : Nat) (i : Int32) (u v w m : St) (f : Nat → Int64) : Option ((Int32 × St × St × St × St × (Nat → Int64)) ⊕ ((Int32 × St × St × St × St × (Nat → Int64)) ⊕ Int32)) := gd (inb (i + 1) LL) (gd (inb (i + 2) LL) (bd (f_L_polymorphism u v w f (xs (i + 1).toNatClampNeg) (xs (i + 2).toNatClampNeg)) (fun r111 => gd (inb (i + 1) LL) (gd (inb (i + 2) LL) (bd (f_X2_polymorphism m (xs (i + 1).toNatClampNeg) (xs (i + 2).toNatClampNeg)) (fun r112 => bd (f_X2_thrown r112.2) (fun r113 => if r113 = r111.1 then if r111.1 = 0 then gd (inb 0 1) (if (lg_cmp (r111.2 (0 : Int32).toNatClampNeg) r112.1.toInt64) = 0 then some (.inl ((i + 6), u, v, w, r112.2, r111.2)) else some (.inr (.inr 0))) else some (.inl ((i + 6), u, v, w, r112.2, r111.2)) else some (.inr (.inr 0)))))))))
def f_law_c20 (xs : Nat → Int32) (LL : Nat) (i : Int32) (u v w m : St) (f : Nat → Int64) : Option ((Int32 × St × St × St × St × (Nat → Int64)) ⊕ ((Int32 × St × St × St × St × (Nat → Int64)) ⊕ Int32)) := gd (inb (i + 1) LL) (gd (inb (i + 2) LL) (bd (f_L_isIdempotent u v w f (xs (i + 1).toNatClampNeg) (xs (i + 2).toNatClampNeg)) (fun r117 => gd (inb (i + 1) LL) (gd (inb (i + 2) LL) (bd (f_X2_isIdempotent m (xs (i + 1).toNatClampNeg) (xs (i + 2).toNatClampNeg)) (fun r118 => bd (f_X2_thrown r118.2) (fun r119 => if r119 = r117.1 then if r117.1 = 0 then gd (inb 0 1) (if r118.1 = 0 then if (lg_cmp (r117.2 (0 : Int32).toNatClampNeg) 0) = 0 then some (.inl ((i + 6), u, v, w, r118.2, r117.2)) else some (.inr (.inr 0)) else if (lg_cmp (r117.2 (0 : Int32).toNatClampNeg) 1) = 0 then some (.inl ((i + 6), u, v, w, r118.2, r117.2)) else some (.inr (.inr 0))) else some (.inl ((i + 6), u, v, w, r118.2, r117.2)) else some (.inr (.inr 0)))))))))
def f_law_c21 (xs : Nat → Int32) (LL : Nat) (i : Int32) (u v w m : St) (f : Nat → Int64) : Option ((Int32 × St × St × St × St × (Nat → Int64)) ⊕ ((Int32 × St × St × St × St × (Nat → Int64)) ⊕ Int32)) := gd (inb (i + 1) LL) (gd (inb (i + 2) LL) (bd (f_L_isMonotone u v w f (xs (i + 1).toNatClampNeg) (xs (i + 2).toNatClampNeg)) (fun r123 => gd (inb (i + 1) LL) (gd (inb (i + 2) LL) (bd (f_X2_isMonotone m (xs (i + 1).toNatClampNeg) (xs (i + 2).toNatClampNeg)) (fun r124 => bd (f_X2_thrown r124.2) (fun r125 => if r125 = r123.1 then if r123.1 = 0 then gd (inb 0 1) (if r124.1 = 0 then if (lg_cmp (r123.2 (0 : Int32).toNatClampNeg) 0) = 0 then some (.inl ((i + 6), u, v, w, r124.2, r123.2)) else some (.inr (.inr 0)) else if (lg_cmp (r123.2 (0 : Int32).toNatClampNeg) 1) = 0 then some (.inl ((i + 6), u, v, w, r124.2, r123.2)) else some (.inr (.inr 0))) else some (.inl ((i + 6), u, v, w, r124.2, r123.2)) else some (.inr (.inr 0)))))))))
def f_law_c22 (xs : Nat → Int32) (LL : Nat) (i : Int32) (u v w m : St) (f : Nat → Int64) : Option ((Int32 × St × St × St × St × (Nat → Int64)) ⊕ ((Int32 × St × St × St × St × (Nat → Int64)) ⊕ Int32)) := gd (inb (i + 1) LL) (gd (inb (i + 2) LL) (bd (f_L_projectedArgument u v w f (xs (i + 1).toNatClampNeg) (xs (i + 2).toNatClampNeg)) (fun r129 => gd (inb (i + 1) LL) (gd (inb (i + 2) LL) (bd (f_X2_projectedArgument m (xs (i + 1).toNatClampNeg) (xs (i + 2).toNatClampNeg)) (fun r130 => bd (f_X2_thrown r130.2) (fun r131 => if r131 = r129.1 then if r129.1 = 0 then gd (inb 0 1) (if (lg_cmp (r129.2 (0 : Int32).toNatClampNeg) r130.1.toInt64) = 0 then some (.inl ((i + 6), u, v, w, r130.2, r129.2)) else some (.inr (.inr 0))) else some (.inl ((i + 6), u, v, w, r130.2, r129.2)) else some (.inr (.inr 0)))))))))
def f_law_c23 (xs : Nat → Int32) (LL : Nat) (i : Int32) (u v w m : St) (f : Nat → Int64) : Option ((Int32 × St × St × St × St × (Nat → Int64)) ⊕ ((Int32 × St × St × St × St × (Nat → Int64)) ⊕ Int32)) := gd (inb (i + 1) LL) (gd (inb (i + 2) LL) (gd (inb (i + 3) LL) (bd (f_L_close u v w f (xs (i + 1).toNatClampNeg) (xs (i + 2).toNatClampNeg) (xs (i + 3).toNatClampNeg)) (fun r135 => gd (inb (i + 1) LL) (gd (inb (i + 2) LL) (gd (inb (i + 3) LL) (bd (f_X2_close m (xs (i + 1).toNatClampNeg) (xs (i + 2).toNatClampNeg) (xs (i + 3).toNatClampNeg)) (fun r136 => bd (f_X2_thrown r136.2) (fun r137 => if r137 = r135.1 then if r135.1 = 0 then gd (inb 0 1) (if (lg_cmp (r135.2.2 (0 : Int32).toNatClampNeg) r136.1.toInt64) = 0 then some (.inl ((i + 6), u, r135.2.1, w, r136.2, r135.2.2)) else some (.inr (.inr 0))) else some (.inl ((i + 6), u, r135.2.1, w, r136.2, r135.2.2)) else some (.inr (.inr 0)))))))))))
def f_law_c24 (xs : Nat → Int32) (LL : Nat) (i : Int32) (u v w m : St) (f : Nat → Int64) : Option ((Int32 × St × St × St × St × (Nat → Int64)) ⊕ ((Int32 × St × St × St × St × (Nat → Int64)) ⊕ Int32)) := gd (inb (i + 1) LL) (gd (inb (i + 2) LL) (bd (f_L_dual u v w f (xs (i + 1).toNatClampNeg) (xs (i + 2).toNatClampNeg)) (fun r141 => gd (inb (i + 1) LL) (gd (inb (i + 2) LL) (bd (f_X2_dual m (xs (i + 1).toNatClampNeg) (xs (i + 2).toNatClampNeg)) (fun r142 => bd (f_X2_thrown r142.2) (fun r143 => if r143 = r141.1 then if r141.1 = 0 then gd (inb 0 1) (if (lg_cmp (r141.2 (0 : Int32).toNatClampNeg) r142.1.toInt64) = 0 then some (.inl ((i + 6), u, v, w, r142.2, r141.2)) else some (.inr (.inr 0))) else some (.inl ((i + 6), u, v, w, r142.2, r141.2)) else some (.inr (.inr 0)))))))))
def f_law_c25 (xs : Nat → Int32) (LL : Nat) (i : Int32) (u v w m : St) (f : Nat → Int64) : Option ((Int32 × St × St × St × St × (Nat → Int64)) ⊕ ((Int32 × St × St × St × St × (Nat → Int64)) ⊕ Int32)) := gd (inb (i + 1) LL) (gd (inb (i + 2) LL) (gd (inb (i + 3) LL) (bd (f_L_dependsOn u v w f (xs (i + 1).toNatClampNeg) (xs (i + 2).toNatClampNeg) (xs (i + 3).toNatClampNeg)) (fun r147 => gd (inb (i + 1) LL) (gd (inb (i + 2) LL) (gd (inb (i + 3) LL) (bd (f_X2_dependsOn m (xs (i + 1).toNatClampNeg) (xs (i + 2).toNatClampNeg) (xs (i + 3).toNatClampNeg)) (fun r148 => bd (f_X2_thrown r148.2) (fun r149 => if r149 = r147.1 then if r147.1 = 0 then gd (inb 0 1) (if r148.1 = 0 then if (lg_cmp (r147.2 (0 : Int32).toNatClampNeg) 0) = 0 then some (.inl ((i + 6), u, v, w, r148.2, r147.2)) else some (.inr (.inr 0)) else if (lg_cmp (r147.2 (0 : Int32).toNatClampNeg) 1) = 0 then some (.inl ((i + 6), u, v, w, r148.2, r147.2)) else some (.inr (.inr 0))) else some (.inl ((i + 6), u, v, w, r148.2, r147.2)) else some (.inr (.inr 0)))))))))))
def f_law_c26 (xs : Nat → Int32) (LL : Nat) (i : Int32) (u v w m : St) (f : Nat → Int64) : Option ((Int32 × St × St × St × St × (Nat → Int64)) ⊕ ((Int32 × St × St × St × St × (Nat → Int64)) ⊕ Int32)) := gd (inb (i + 1) LL) (gd (inb (i + 2) LL) (gd (inb (i + 3) LL) (bd (f_L_compose u v w f (xs (i + 1).toNatClampNeg) (xs (i + 2).toNatClampNeg) (xs (i + 3).toNatClampNeg)) (fun r153 => gd (inb (i + 1) LL) (gd (inb (i + 2) LL) (gd (inb (i + 3) LL) (bd (f_X2_compose m (xs (i + 1).toNatClampNeg) (xs (i + 2).toNatClampNeg) (xs (i + 3).toNatClampNeg)) (fun r154 => bd (f_X2_thrown r154.2) (fun r155 => if r155 = r153.1 then if r153.1 = 0 then gd (inb 0 1) (if (lg_cmp (r153.2 (0 : Int32).toNatClampNeg) r154.1.toInt64) = 0 then some (.inl ((i + 6), u, v, w, r154.2, r153.2)) else some (.inr (.inr 0))) else some (.inl ((i + 6), u, v, w, r154.2, r153.2)) else some (.inr (.inr 0)))))))))))
def f_law_c27 (xs : Nat → Int32) (LL : Nat) (i : Int32) (u v w m : St) (f : Nat → Int64) : Option ((Int32 × St × St × St × St × (Nat → Int64)) ⊕ ((Int32 × St × St × St × St × (Nat → Int64)) ⊕ Int32)) := gd (inb (i + 1) LL) (gd (inb (i + 2) LL) (bd (f_L_relationHasKind u v w f (xs (i + 1).toNatClampNeg) (xs (i + 2).toNatClampNeg)) (fun r159 => gd (inb (i + 1) LL) (gd (inb (i + 2) LL) (bd (f_X2_relationHasKind m (xs (i + 1).toNatClampNeg) (xs (i + 2).toNatClampNeg)) (fun r160 => bd (f_X2_thrown r160.2) (fun r161 => if r161 = r159.1 then if r159.1 = 0 then gd (inb 0 1) (if r160.1 = 0 then if (lg_cmp (r159.2 (0 : Int32).toNatClampNeg) 0) = 0 then some (.inl ((i + 6), u, v, w, r160.2, r159.2)) else some (.inr (.inr 0)) else if (lg_cmp (r159.2 (0 : Int32).toNatClampNeg) 1) = 0 then some (.inl ((i + 6), u, v, w, r160.2, r159.2)) else some (.inr (.inr 0))) else some (.inl ((i + 6), u, v, w, r160.2, r159.2)) else some (.inr (.inr 0)))))))))
def f_law_c28 (xs : Nat → Int32) (LL : Nat) (i : Int32) (u v w m : St) (f : Nat → Int64) : Option ((Int32 × St × St × St × St × (Nat → Int64)) ⊕ ((Int32 × St × St × St × St × (Nat → Int64)) ⊕ Int32)) := gd (inb (i + 1) LL) (bd (f_L_hasKind u v w f (xs (i + 1).toNatClampNeg)) (fun r165 => gd (inb (i + 1) LL) (bd (f_X2_hasKind m (xs (i + 1).toNatClampNeg)) (fun r166 => bd (f_X2_thrown r166.2) (fun r167 => if r167 = r165.1 then if r165.1 = 0 then gd (inb 0 1) (if r166.1 = 0 then if (lg_cmp (r165.2 (0 : Int32).toNatClampNeg) 0) = 0 then some (.inl ((i + 6), u, v, w, r166.2, r165.2)) else some (.inr (.inr 0)) else if (lg_cmp (r165.2 (0 : Int32).toNatClampNeg) 1) = 0 then some (.inl ((i + 6), u, v, w, r166.2, r165.2)) else some (.inr (.inr 0))) else some (.inl ((i + 6), u, v, w, r166.2, r165.2)) else some (.inr (.inr 0)))))))
def f_law_c29 (xs : Nat → Int32) (LL : Nat) (i : Int32) (u v w m : St) (f : Nat → Int64) : Option ((Int32 × St × St × St × St × (Nat → Int64)) ⊕ ((Int32 × St × St × St × St × (Nat → Int64)) ⊕ Int32)) := bd (f_L_lowestKind u v w f) (fun r171 => bd (f_X2_lowestKind m) (fun r172 => bd (f_X2_thrown r172.2) (fun r173 => if r173 = r171.1 then if r171.1 = 0 then gd (inb 0 1) (if (lg_cmp (r171.2 (0 : Int32).toNatClampNeg) r172.1.toInt64) = 0 then some (.inl ((i + 6), u, v, w, r172.2, r171.2)) else some (.inr (.inr 0))) else some (.inl ((i + 6), u, v, w, r172.2, r171.2)) else some (.inr (.inr 0)))))
def f_law_c30 (xs : Nat → Int32) (LL : Nat) (i : Int32) (u v w m : St) (f : Nat → Int64) : Option ((Int32 × St × St × St × St × (Nat → Int64)) ⊕ ((Int32 × St × St × St × St × (Nat → Int64)) ⊕ Int32)) := gd (inb (i + 1) LL) (bd (f_L_setVariables u v w f (xs (i + 1).toNatClampNeg)) (fun r177 => gd (inb (i + 1) LL) (bd (f_X2_setVariables m (xs (i + 1).toNatClampNeg)) (fun r178 => bd (f_X2_thrown r178.2) (fun r179 => if r179 = r177.1 then if r177.1 = 0 then gd (inb 0 1) (if (lg_cmp (r177.2.2 (0 : Int32).toNatClampNeg) r178.1.toInt64) = 0 then some (.inl ((i + 6), u, r177.2.1, w, r178.2, r177.2.2)) else some (.inr (.inr 0))) else some (.inl ((i + 6), u, r177.2.1, w, r178.2, r177.2.2)) else some (.inr (.inr 0)))))))
def f_law_c31 (xs : Nat → Int32) (LL : Nat) (i : Int32) (u v w m : St) (f : Nat → Int64) : Option ((Int32 × St × St × St × St × (Nat → Int64)) ⊕ ((Int32 × St × St × St × St × (Nat → Int64)) ⊕ Int32)) := gd (inb (i + 1) LL) (gd (inb (i + 2) LL) (gd (inb (i + 3) LL) (gd (inb (i + 4) LL) (gd (inb (i + 5) LL) (bd (f_L_addConstraint u v w f (xs (i + 1).toNatClampNeg) (xs (i + 2).toNatClampNeg) (xs (i + 3).toNatClampNeg) (xs (i + 4).toNatClampNeg) (xs (i + 5).toNatClampNeg)) (fun r183 => gd (inb (i + 1) LL) (gd (inb (i + 2) LL) (gd (inb (i + 3) LL) (gd (inb (i + 4) LL) (gd (inb (i + 5) LL) (bd (f_X2_addConstraint m (xs (i + 1).toNatClampNeg) (xs (i + 2).toNatClampNeg) (xs (i + 3).toNatClampNeg) (xs (i + 4).toNatClampNeg) (xs (i + 5).toNatClampNeg)) (fun r184 => bd (f_X2_thrown r184.2) (fun r185 => if r185 = r183.1 then if r183.1 = 0 then gd (inb 0 1) (if (lg_cmp (r183.2.2 (0 : Int32).toNatClampNeg) r184.1.toInt64) = 0 then some (.inl ((i + 6), u, r183.2.1, w, r184.2, r183.2.2)) else some (.inr (.inr 0))) else some (.inl ((i + 6), u, r183.2.1, w, r184.2, r183.2.2)) else some (.inr (.inr 0)))))))))))))))
def f_law_c32 (xs : Nat → Int32) (LL : Nat) (i : Int32) (u v w m : St) (f : Nat → Int64) : Option ((Int32 × St × St × St × St × (Nat → Int64)) ⊕ ((Int32 × St × St × St × St × (Nat → Int64)) ⊕ Int32)) := bd (f_L_removeLastConstraint u v w f) (fun r189 => bd (f_X2_removeLastConstraint m) (fun r190 => bd (f_X2_thrown r190.2) (fun r191 => if r191 = r189.1 then if r189.1 = 0 then gd (inb 0 1) (if (lg_cmp (r189.2.2 (0 : Int32).toNatClampNeg) r190.1.toInt64) = 0 then some (.inl ((i + 6), u, r189.2.1, w, r190.2, r189.2.2)) else some (.inr (.inr 0))) else some (.inl ((i + 6), u, r189.2.1, w, r190.2, r189.2.2)) else some (.inr (.inr 0)))))
def f_law_c33 (xs : Nat → Int32) (LL : Nat) (i : Int32) (u v w m : St) (f : Nat → Int64) : Option ((Int32 × St × St × St × St × (Nat → Int64)) ⊕ ((Int32 × St × St × St × St × (Nat → Int64)) ⊕ Int32)) := bd (f_X1_solutionCount u v w) (fun r195 => bd (f_X2_solutionCount m) (fun r196 => if r195 = r196.1 then some (.inl ((i + 6), u, v, w, r196.2, f)) else some (.inr (.inr 0))))
def f_law_c34 (xs : Nat → Int32) (LL : Nat) (i : Int32) (u v w m : St) (f : Nat → Int64) : Option ((Int32 × St × St × St × St × (Nat → Int64)) ⊕ ((Int32 × St × St × St × St × (Nat → Int64)) ⊕ Int32)) := gd (inb (i + 1) LL) (bd (f_L_solution u v w f (xs (i + 1).toNatClampNeg)) (fun r199 => gd (inb (i + 1) LL) (bd (f_X2_solution m (xs (i + 1).toNatClampNeg)) (fun r200 => bd (f_X2_thrown r200.2) (fun r201 => if r201 = r199.1 then if r199.1 = 0 then gd (inb 0 1) (if (lg_cmp (r199.2 (0 : Int32).toNatClampNeg) r200.1.toInt64) = 0 then some (.inl ((i + 6), u, v, w, r200.2, r199.2)) else some (.inr (.inr 0))) else some (.inl ((i + 6), u, v, w, r200.2, r199.2)) else some (.inr (.inr 0)))))))
def f_law_c35 (xs : Nat → Int32) (LL : Nat) (i : Int32) (u v w m : St) (f : Nat → Int64) : Option ((Int32 × St × St × St × St × (Nat → Int64)) ⊕ ((Int32 × St × St × St × St × (Nat → Int64)) ⊕ Int32)) := gd (inb (i + 1) LL) (gd (inb (i + 2) LL) (bd (f_L_isForced u v w f (xs (i + 1).toNatClampNeg) (xs (i + 2).toNatClampNeg)) (fun r205 => gd (inb (i + 1) LL) (gd (inb (i + 2) LL) (bd (f_X2_isForced m (xs (i + 1).toNatClampNeg) (xs (i + 2).toNatClampNeg)) (fun r206 => bd (f_X2_thrown r206.2) (fun r207 => if r207 = r205.1 then if r205.1 = 0 then gd (inb 0 1) (if r206.1 = 0 then if (lg_cmp (r205.2 (0 : Int32).toNatClampNeg) 0) = 0 then some (.inl ((i + 6), u, v, w, r206.2, r205.2)) else some (.inr (.inr 0)) else if (lg_cmp (r205.2 (0 : Int32).toNatClampNeg) 1) = 0 then some (.inl ((i + 6), u, v, w, r206.2, r205.2)) else some (.inr (.inr 0))) else some (.inl ((i + 6), u, v, w, r206.2, r205.2)) else some (.inr (.inr 0)))))))))
def f_law_c36 (xs : Nat → Int32) (LL : Nat) (i : Int32) (u v w m : St) (f : Nat → Int64) : Option ((Int32 × St × St × St × St × (Nat → Int64)) ⊕ ((Int32 × St × St × St × St × (Nat → Int64)) ⊕ Int32)) := bd (f_L_leastSolution u v w f) (fun r211 => bd (f_X2_leastSolution m) (fun r212 => bd (f_X2_thrown r212.2) (fun r213 => if r213 = r211.1 then if r211.1 = 0 then gd (inb 0 1) (if (lg_cmp (r211.2 (0 : Int32).toNatClampNeg) r212.1.toInt64) = 0 then some (.inl ((i + 6), u, v, w, r212.2, r211.2)) else some (.inr (.inr 0))) else some (.inl ((i + 6), u, v, w, r212.2, r211.2)) else some (.inr (.inr 0)))))
def f_law_c37 (xs : Nat → Int32) (LL : Nat) (i : Int32) (u v w m : St) (f : Nat → Int64) : Option ((Int32 × St × St × St × St × (Nat → Int64)) ⊕ ((Int32 × St × St × St × St × (Nat → Int64)) ⊕ Int32)) := bd (f_L_greatestSolution u v w f) (fun r217 => bd (f_X2_greatestSolution m) (fun r218 => bd (f_X2_thrown r218.2) (fun r219 => if r219 = r217.1 then if r217.1 = 0 then gd (inb 0 1) (if (lg_cmp (r217.2 (0 : Int32).toNatClampNeg) r218.1.toInt64) = 0 then some (.inl ((i + 6), u, v, w, r218.2, r217.2)) else some (.inr (.inr 0))) else some (.inl ((i + 6), u, v, w, r218.2, r217.2)) else some (.inr (.inr 0)))))
def f_law_c38 (xs : Nat → Int32) (LL : Nat) (i : Int32) (u v w m : St) (f : Nat → Int64) : Option ((Int32 × St × St × St × St × (Nat → Int64)) ⊕ ((Int32 × St × St × St × St × (Nat → Int64)) ⊕ Int32)) := gd (inb (i + 1) LL) (gd (inb (i + 2) LL) (gd (inb (i + 3) LL) (gd (inb (i + 4) LL) (bd (f_L_implies u v w f (xs (i + 1).toNatClampNeg) (xs (i + 2).toNatClampNeg) (xs (i + 3).toNatClampNeg) (xs (i + 4).toNatClampNeg)) (fun r223 => gd (inb (i + 1) LL) (gd (inb (i + 2) LL) (gd (inb (i + 3) LL) (gd (inb (i + 4) LL) (bd (f_X2_implies m (xs (i + 1).toNatClampNeg) (xs (i + 2).toNatClampNeg) (xs (i + 3).toNatClampNeg) (xs (i + 4).toNatClampNeg)) (fun r224 => bd (f_X2_thrown r224.2) (fun r225 => if r225 = r223.1 then if r223.1 = 0 then gd (inb 0 1) (if r224.1 = 0 then if (lg_cmp (r223.2 (0 : Int32).toNatClampNeg) 0) = 0 then some (.inl ((i + 6), u, v, w, r224.2, r223.2)) else some (.inr (.inr 0)) else if (lg_cmp (r223.2 (0 : Int32).toNatClampNeg) 1) = 0 then some (.inl ((i + 6), u, v, w, r224.2, r223.2)) else some (.inr (.inr 0))) else some (.inl ((i + 6), u, v, w, r224.2, r223.2)) else some (.inr (.inr 0)))))))))))))
def f_law_c39 (xs : Nat → Int32) (LL : Nat) (i : Int32) (u v w m : St) (f : Nat → Int64) : Option ((Int32 × St × St × St × St × (Nat → Int64)) ⊕ ((Int32 × St × St × St × St × (Nat → Int64)) ⊕ Int32)) := bd (f_L_dimension u v w f) (fun r229 => bd (f_X2_dimension m) (fun r230 => bd (f_X2_thrown r230.2) (fun r231 => if r231 = r229.1 then if r229.1 = 0 then gd (inb 0 1) (if (lg_cmp (r229.2 (0 : Int32).toNatClampNeg) r230.1.toInt64) = 0 then some (.inl ((i + 6), u, v, w, r230.2, r229.2)) else some (.inr (.inr 0))) else some (.inl ((i + 6), u, v, w, r230.2, r229.2)) else some (.inr (.inr 0)))))
def f_law_c40 (xs : Nat → Int32) (LL : Nat) (i : Int32) (u v w m : St) (f : Nat → Int64) : Option ((Int32 × St × St × St × St × (Nat → Int64)) ⊕ ((Int32 × St × St × St × St × (Nat → Int64)) ⊕ Int32)) := gd (inb (i + 1) LL) (gd (inb (i + 2) LL) (gd (inb (i + 3) LL) (gd (inb (i + 4) LL) (gd (inb (i + 5) LL) (bd (f_L_define u v w f (xs (i + 1).toNatClampNeg) (xs (i + 2).toNatClampNeg) (xs (i + 3).toNatClampNeg) (xs (i + 4).toNatClampNeg) (xs (i + 5).toNatClampNeg)) (fun r235 => gd (inb (i + 1) LL) (gd (inb (i + 2) LL) (gd (inb (i + 3) LL) (gd (inb (i + 4) LL) (gd (inb (i + 5) LL) (bd (f_X2_define m (xs (i + 1).toNatClampNeg) (xs (i + 2).toNatClampNeg) (xs (i + 3).toNatClampNeg) (xs (i + 4).toNatClampNeg) (xs (i + 5).toNatClampNeg)) (fun r236 => bd (f_X2_thrown r236.2) (fun r237 => if r237 = r235.1 then if r235.1 = 0 then gd (inb 0 1) (if (lg_cmp (r235.2.2 (0 : Int32).toNatClampNeg) r236.1.toInt64) = 0 then some (.inl ((i + 6), u, r235.2.1, w, r236.2, r235.2.2)) else some (.inr (.inr 0))) else some (.inl ((i + 6), u, r235.2.1, w, r236.2, r235.2.2)) else some (.inr (.inr 0)))))))))))))))
def f_law_c41 (xs : Nat → Int32) (LL : Nat) (i : Int32) (u v w m : St) (f : Nat → Int64) : Option ((Int32 × St × St × St × St × (Nat → Int64)) ⊕ ((Int32 × St × St × St × St × (Nat → Int64)) ⊕ Int32)) := gd (inb (i + 1) LL) (bd (f_L_firstViolated u v w f (xs (i + 1).toNatClampNeg)) (fun r241 => gd (inb (i + 1) LL) (bd (f_X2_firstViolated m (xs (i + 1).toNatClampNeg)) (fun r242 => bd (f_X2_thrown r242.2) (fun r243 => if r243 = r241.1 then if r241.1 = 0 then gd (inb 0 1) (if (lg_cmp (r241.2 (0 : Int32).toNatClampNeg) r242.1.toInt64) = 0 then some (.inl ((i + 6), u, v, w, r242.2, r241.2)) else some (.inr (.inr 0))) else some (.inl ((i + 6), u, v, w, r242.2, r241.2)) else some (.inr (.inr 0)))))))
def f_law_c42 (xs : Nat → Int32) (LL : Nat) (i : Int32) (u v w m : St) (f : Nat → Int64) : Option ((Int32 × St × St × St × St × (Nat → Int64)) ⊕ ((Int32 × St × St × St × St × (Nat → Int64)) ⊕ Int32)) := gd (inb (i + 1) LL) (bd (f_L_isRedundant u v w f (xs (i + 1).toNatClampNeg)) (fun r247 => gd (inb (i + 1) LL) (bd (f_X2_isRedundant m (xs (i + 1).toNatClampNeg)) (fun r248 => bd (f_X2_thrown r248.2) (fun r249 => if r249 = r247.1 then if r247.1 = 0 then gd (inb 0 1) (if r248.1 = 0 then if (lg_cmp (r247.2 (0 : Int32).toNatClampNeg) 0) = 0 then some (.inl ((i + 6), u, v, w, r248.2, r247.2)) else some (.inr (.inr 0)) else if (lg_cmp (r247.2 (0 : Int32).toNatClampNeg) 1) = 0 then some (.inl ((i + 6), u, v, w, r248.2, r247.2)) else some (.inr (.inr 0))) else some (.inl ((i + 6), u, v, w, r248.2, r247.2)) else some (.inr (.inr 0)))))))
def f_law_c43 (xs : Nat → Int32) (LL : Nat) (i : Int32) (u v w m : St) (f : Nat → Int64) : Option ((Int32 × St × St × St × St × (Nat → Int64)) ⊕ ((Int32 × St × St × St × St × (Nat → Int64)) ⊕ Int32)) := bd (f_X1_removeRedundant u v w) (fun r253 => bd (f_X2_removeRedundant m) (fun r254 => if r253.1 = r254.1 then some (.inl ((i + 6), u, r253.2, w, r254.2, f)) else some (.inr (.inr 0))))
def f_law_c44 (xs : Nat → Int32) (LL : Nat) (i : Int32) (u v w m : St) (f : Nat → Int64) : Option ((Int32 × St × St × St × St × (Nat → Int64)) ⊕ ((Int32 × St × St × St × St × (Nat → Int64)) ⊕ Int32)) := gd (inb (i + 1) LL) (bd (f_L_append u v w f (ji2c (xs (i + 1).toNatClampNeg))) (fun r257 => gd (inb (i + 1) LL) (bd (f_X2_append m (ji2c (xs (i + 1).toNatClampNeg))) (fun r258 => bd (f_X2_thrown r258.2) (fun r259 => if r259 = r257.1 then if r257.1 = 0 then gd (inb 0 1) (if (lg_cmp (r257.2.2 (0 : Int32).toNatClampNeg) r258.1.toInt64) = 0 then some (.inl ((i + 6), r257.2.1, v, w, r258.2, r257.2.2)) else some (.inr (.inr 0))) else some (.inl ((i + 6), r257.2.1, v, w, r258.2, r257.2.2)) else some (.inr (.inr 0)))))))
def f_law_c45 (xs : Nat → Int32) (LL : Nat) (i : Int32) (u v w m : St) (f : Nat → Int64) : Option ((Int32 × St × St × St × St × (Nat → Int64)) ⊕ ((Int32 × St × St × St × St × (Nat → Int64)) ⊕ Int32)) := bd (f_L_parse u v w f) (fun r263 => bd (f_X2_parse m) (fun r264 => bd (f_X2_thrown r264.2) (fun r265 => if r265 = r263.1 then if r263.1 = 0 then gd (inb 0 1) (if (lg_cmp (r263.2.2.2 (0 : Int32).toNatClampNeg) r264.1.toInt64) = 0 then some (.inl ((i + 6), r263.2.1, r263.2.2.1, w, r264.2, r263.2.2.2)) else some (.inr (.inr 0))) else some (.inl ((i + 6), r263.2.1, r263.2.2.1, w, r264.2, r263.2.2.2)) else some (.inr (.inr 0)))))
def f_law_c46 (xs : Nat → Int32) (LL : Nat) (i : Int32) (u v w m : St) (f : Nat → Int64) : Option ((Int32 × St × St × St × St × (Nat → Int64)) ⊕ ((Int32 × St × St × St × St × (Nat → Int64)) ⊕ Int32)) := bd (f_L_errorPosition u v w f) (fun r269 => bd (f_X2_errorPosition m) (fun r270 => bd (f_X2_thrown r270.2) (fun r271 => if r271 = r269.1 then if r269.1 = 0 then gd (inb 0 1) (if (lg_cmp (r269.2 (0 : Int32).toNatClampNeg) r270.1.toInt64) = 0 then some (.inl ((i + 6), u, v, w, r270.2, r269.2)) else some (.inr (.inr 0))) else some (.inl ((i + 6), u, v, w, r270.2, r269.2)) else some (.inr (.inr 0)))))
def f_law_c47 (xs : Nat → Int32) (LL : Nat) (i : Int32) (u v w m : St) (f : Nat → Int64) : Option ((Int32 × St × St × St × St × (Nat → Int64)) ⊕ ((Int32 × St × St × St × St × (Nat → Int64)) ⊕ Int32)) := gd (inb (i + 1) LL) (bd (f_L_write u v w f (xs (i + 1).toNatClampNeg)) (fun r275 => gd (inb (i + 1) LL) (bd (f_X2_write m (xs (i + 1).toNatClampNeg)) (fun r276 => bd (f_X2_thrown r276.2) (fun r277 => if r277 = r275.1 then if r275.1 = 0 then gd (inb 0 1) (if (lg_cmp (r275.2.2 (0 : Int32).toNatClampNeg) r276.1.toInt64) = 0 then some (.inl ((i + 6), r275.2.1, v, w, r276.2, r275.2.2)) else some (.inr (.inr 0))) else some (.inl ((i + 6), r275.2.1, v, w, r276.2, r275.2.2)) else some (.inr (.inr 0)))))))
def f_law_c48 (xs : Nat → Int32) (LL : Nat) (i : Int32) (u v w m : St) (f : Nat → Int64) : Option ((Int32 × St × St × St × St × (Nat → Int64)) ⊕ ((Int32 × St × St × St × St × (Nat → Int64)) ⊕ Int32)) := gd (inb (i + 1) LL) (bd (f_L_outputAt u v w f (xs (i + 1).toNatClampNeg)) (fun r281 => gd (inb (i + 1) LL) (bd (f_X2_outputAt m (xs (i + 1).toNatClampNeg)) (fun r282 => bd (f_X2_thrown r282.2) (fun r283 => if r283 = r281.1 then if r281.1 = 0 then gd (inb 0 1) (if (lg_cmp (r281.2 (0 : Int32).toNatClampNeg) r282.1.toInt64) = 0 then some (.inl ((i + 6), u, v, w, r282.2, r281.2)) else some (.inr (.inr 0))) else some (.inl ((i + 6), u, v, w, r282.2, r281.2)) else some (.inr (.inr 0)))))))
def f_law_c49 (xs : Nat → Int32) (LL : Nat) (i : Int32) (u v w m : St) (f : Nat → Int64) : Option ((Int32 × St × St × St × St × (Nat → Int64)) ⊕ ((Int32 × St × St × St × St × (Nat → Int64)) ⊕ Int32)) := gd (inb (i + 1) LL) (gd (inb (i + 2) LL) (gd (inb (i + 3) LL) (bd (f_L_storeFlags u v w f (xs (i + 1).toNatClampNeg) (xs (i + 2).toNatClampNeg) (xs (i + 3).toNatClampNeg)) (fun r287 => gd (inb (i + 1) LL) (gd (inb (i + 2) LL) (gd (inb (i + 3) LL) (bd (f_X2_storeFlags m (xs (i + 1).toNatClampNeg) (xs (i + 2).toNatClampNeg) (xs (i + 3).toNatClampNeg)) (fun r288 => bd (f_X2_thrown r288.2) (fun r289 => if r289 = r287.1 then if r287.1 = 0 then gd (inb 0 1) (if (lg_cmp (r287.2.2 (0 : Int32).toNatClampNeg) r288.1.toInt64) = 0 then some (.inl ((i + 6), r287.2.1, v, w, r288.2, r287.2.2)) else some (.inr (.inr 0))) else some (.inl ((i + 6), r287.2.1, v, w, r288.2, r287.2.2)) else some (.inr (.inr 0)))))))))))
def f_law_c50 (xs : Nat → Int32) (LL : Nat) (i : Int32) (u v w m : St) (f : Nat → Int64) : Option ((Int32 × St × St × St × St × (Nat → Int64)) ⊕ ((Int32 × St × St × St × St × (Nat → Int64)) ⊕ Int32)) := gd (inb (i + 1) LL) (gd (inb (i + 2) LL) (gd (inb (i + 3) LL) (if (xs (i + 3).toNatClampNeg) = 0 then bd (f_L_setFlag u v w f (xs (i + 1).toNatClampNeg) (xs (i + 2).toNatClampNeg) 0) (fun r293 => gd (inb (i + 1) LL) (gd (inb (i + 2) LL) (gd (inb (i + 3) LL) (if (xs (i + 3).toNatClampNeg) = 0 then bd (f_X2_setFlag m (xs (i + 1).toNatClampNeg) (xs (i + 2).toNatClampNeg) 0) (fun r294 => bd (f_X2_thrown r294.2) (fun r295 => if r295 = r293.1 then if r293.1 = 0 then gd (inb 0 1) (if r294.1 = 0 then if (lg_cmp (r293.2.2 (0 : Int32).toNatClampNeg) 0) = 0 then some (.inl ((i + 6), r293.2.1, v, w, r294.2, r293.2.2)) else some (.inr (.inr 0)) else if (lg_cmp (r293.2.2 (0 : Int32).toNatClampNeg) 1) = 0 then some (.inl ((i + 6), r293.2.1, v, w, r294.2, r293.2.2)) else some (.inr (.inr 0))) else some (.inl ((i + 6), r293.2.1, v, w, r294.2, r293.2.2)) else some (.inr (.inr 0)))) else bd (f_X2_setFlag m (xs (i + 1).toNatClampNeg) (xs (i + 2).toNatClampNeg) 1) (fun r296 => bd (f_X2_thrown r296.2) (fun r297 => if r297 = r293.1 then if r293.1 = 0 then gd (inb 0 1) (if r296.1 = 0 then if (lg_cmp (r293.2.2 (0 : Int32).toNatClampNeg) 0) = 0 then some (.inl ((i + 6), r293.2.1, v, w, r296.2, r293.2.2)) else some (.inr (.inr 0)) else if (lg_cmp (r293.2.2 (0 : Int32).toNatClampNeg) 1) = 0 then some (.inl ((i + 6), r293.2.1, v, w, r296.2, r293.2.2)) else some (.inr (.inr 0))) else some (.inl ((i + 6), r293.2.1, v, w, r296.2, r293.2.2)) else some (.inr (.inr 0)))))))) else bd (f_L_setFlag u v w f (xs (i + 1).toNatClampNeg) (xs (i + 2).toNatClampNeg) 1) (fun r298 => gd (inb (i + 1) LL) (gd (inb (i + 2) LL) (gd (inb (i + 3) LL) (if (xs (i + 3).toNatClampNeg) = 0 then bd (f_X2_setFlag m (xs (i + 1).toNatClampNeg) (xs (i + 2).toNatClampNeg) 0) (fun r299 => bd (f_X2_thrown r299.2) (fun r300 => if r300 = r298.1 then if r298.1 = 0 then gd (inb 0 1) (if r299.1 = 0 then if (lg_cmp (r298.2.2 (0 : Int32).toNatClampNeg) 0) = 0 then some (.inl ((i + 6), r298.2.1, v, w, r299.2, r298.2.2)) else some (.inr (.inr 0)) else if (lg_cmp (r298.2.2 (0 : Int32).toNatClampNeg) 1) = 0 then some (.inl ((i + 6), r298.2.1, v, w, r299.2, r298.2.2)) else some (.inr (.inr 0))) else some (.inl ((i + 6), r298.2.1, v, w, r299.2, r298.2.2)) else some (.inr (.inr 0)))) else bd (f_X2_setFlag m (xs (i + 1).toNatClampNeg) (xs (i + 2).toNatClampNeg) 1) (fun r301 => bd (f_X2_thrown r301.2) (fun r302 => if r302 = r298.1 then if r298.1 = 0 then gd (inb 0 1) (if r301.1 = 0 then if (lg_cmp (r298.2.2 (0 : Int32).toNatClampNeg) 0) = 0 then some (.inl ((i + 6), r298.2.1, v, w, r301.2, r298.2.2)) else some (.inr (.inr 0)) else if (lg_cmp (r298.2.2 (0 : Int32).toNatClampNeg) 1) = 0 then some (.inl ((i + 6), r298.2.1, v, w, r301.2, r298.2.2)) else some (.inr (.inr 0))) else some (.inl ((i + 6), r298.2.1, v, w, r301.2, r298.2.2)) else some (.inr (.inr 0)))))))))))
def f_law_c51 (xs : Nat → Int32) (LL : Nat) (i : Int32) (u v w m : St) (f : Nat → Int64) : Option ((Int32 × St × St × St × St × (Nat → Int64)) ⊕ ((Int32 × St × St × St × St × (Nat → Int64)) ⊕ Int32)) := gd (inb (i + 1) LL) (gd (inb (i + 2) LL) (bd (f_L_takeFlags u v w f (xs (i + 1).toNatClampNeg) (xs (i + 2).toNatClampNeg)) (fun r313 => gd (inb (i + 1) LL) (gd (inb (i + 2) LL) (bd (f_X2_takeFlags m (xs (i + 1).toNatClampNeg) (xs (i + 2).toNatClampNeg)) (fun r314 => bd (f_X2_thrown r314.2) (fun r315 => if r315 = r313.1 then if r313.1 = 0 then gd (inb 0 1) (if (lg_cmp (r313.2.2 (0 : Int32).toNatClampNeg) r314.1.toInt64) = 0 then some (.inl ((i + 6), u, r313.2.1, w, r314.2, r313.2.2)) else some (.inr (.inr 0))) else some (.inl ((i + 6), u, r313.2.1, w, r314.2, r313.2.2)) else some (.inr (.inr 0)))))))))
def f_law_c52 (xs : Nat → Int32) (LL : Nat) (i : Int32) (u v w m : St) (f : Nat → Int64) : Option ((Int32 × St × St × St × St × (Nat → Int64)) ⊕ ((Int32 × St × St × St × St × (Nat → Int64)) ⊕ Int32)) := bd (f_X1_saveSnapshot u v w) (fun r319 => bd (f_X2_saveSnapshot m) (fun r320 => if r319.1 = r320.1 then some (.inl ((i + 6), r319.2.1, v, r319.2.2, r320.2, f)) else some (.inr (.inr 0))))
def f_law_c53 (xs : Nat → Int32) (LL : Nat) (i : Int32) (u v w m : St) (f : Nat → Int64) : Option ((Int32 × St × St × St × St × (Nat → Int64)) ⊕ ((Int32 × St × St × St × St × (Nat → Int64)) ⊕ Int32)) := bd (f_L_restoreSnapshot u v w f) (fun r323 => bd (f_X2_restoreSnapshot m) (fun r324 => bd (f_X2_thrown r324.2) (fun r325 => if r325 = r323.1 then if r323.1 = 0 then gd (inb 0 1) (if (lg_cmp (r323.2.2 (0 : Int32).toNatClampNeg) r324.1.toInt64) = 0 then some (.inl ((i + 6), u, r323.2.1, w, r324.2, r323.2.2)) else some (.inr (.inr 0))) else some (.inl ((i + 6), u, r323.2.1, w, r324.2, r323.2.2)) else some (.inr (.inr 0)))))
def f_law_c54 (xs : Nat → Int32) (LL : Nat) (i : Int32) (u v w m : St) (f : Nat → Int64) : Option ((Int32 × St × St × St × St × (Nat → Int64)) ⊕ ((Int32 × St × St × St × St × (Nat → Int64)) ⊕ Int32)) := some (.inl ((i + 6), u, v, w, m, f))
def f_law_sw (xs : Nat → Int32) (LL : Nat) (i : Int32) (u v w m : St) (f : Nat → Int64) (z : Int32) : Option ((Int32 × St × St × St × St × (Nat → Int64)) ⊕ ((Int32 × St × St × St × St × (Nat → Int64)) ⊕ Int32)) := if z = 0 then f_law_c0 xs LL i u v w m f else if z = 1 then f_law_c1 xs LL i u v w m f else if z = 2 then f_law_c2 xs LL i u v w m f else if z = 3 then f_law_c3 xs LL i u v w m f else if z = 4 then f_law_c4 xs LL i u v w m f else if z = 5 then f_law_c5 xs LL i u v w m f else if z = 6 then f_law_c6 xs LL i u v w m f else if z = 7 then f_law_c7 xs LL i u v w m f else if z = 8 then f_law_c8 xs LL i u v w m f else if z = 9 then f_law_c9 xs LL i u v w m f else if z = 10 then f_law_c10 xs LL i u v w m f else if z = 11 then f_law_c11 xs LL i u v w m f else if z = 12 then f_law_c12 xs LL i u v w m f else if z = 13 then f_law_c13 xs LL i u v w m f else if z = 14 then f_law_c14 xs LL i u v w m f else if z = 15 then f_law_c15 xs LL i u v w m f else if z = 16 then f_law_c16 xs LL i u v w m f else if z = 17 then f_law_c17 xs LL i u v w m f else if z = 18 then f_law_c18 xs LL i u v w m f else if z = 19 then f_law_c19 xs LL i u v w m f else if z = 20 then f_law_c20 xs LL i u v w m f else if z = 21 then f_law_c21 xs LL i u v w m f else if z = 22 then f_law_c22 xs LL i u v w m f else if z = 23 then f_law_c23 xs LL i u v w m f else if z = 24 then f_law_c24 xs LL i u v w m f else if z = 25 then f_law_c25 xs LL i u v w m f else if z = 26 then f_law_c26 xs LL i u v w m f else if z = 27 then f_law_c27 xs LL i u v w m f else if z = 28 then f_law_c28 xs LL i u v w m f else if z = 29 then f_law_c29 xs LL i u v w m f else if z = 30 then f_law_c30 xs LL i u v w m f else if z = 31 then f_law_c31 xs LL i u v w m f else if z = 32 then f_law_c32 xs LL i u v w m f else if z = 33 then f_law_c33 xs LL i u v w m f else if z = 34 then f_law_c34 xs LL i u v w m f else if z = 35 then f_law_c35 xs LL i u v w m f else if z = 36 then f_law_c36 xs LL i u v w m f else if z = 37 then f_law_c37 xs LL i u v w m f else if z = 38 then f_law_c38 xs LL i u v w m f else if z = 39 then f_law_c39 xs LL i u v w m f else if z = 40 then f_law_c40 xs LL i u v w m f else if z = 41 then f_law_c41 xs LL i u v w m f else if z = 42 then f_law_c42 xs LL i u v w m f else if z = 43 then f_law_c43 xs LL i u v w m f else if z = 44 then f_law_c44 xs LL i u v w m f else if z = 45 then f_law_c45 xs LL i u v w m f else if z = 46 then f_law_c46 xs LL i u v w m f else if z = 47 then f_law_c47 xs LL i u v w m f else if z = 48 then f_law_c48 xs LL i u v w m f else if z = 49 then f_law_c49 xs LL i u v w m f else if z = 50 then f_law_c50 xs LL i u v w m f else if z = 51 then f_law_c51 xs LL i u v w m f else if z = 52 then f_law_c52 xs LL i u v w m f else if z = 53 then f_law_c53 xs LL i u v w m f else f_law_c54 xs LL i u v w m f
def f_law_step (xs : Nat → Int32) (LL : Nat) (s : Int32 × St × St × St × St × (Nat → Int64)) : Option ((Int32 × St × St × St × St × (Nat → Int64)) ⊕ ((Int32 × St × St × St × St × (Nat → Int64)) ⊕ Int32)) := if ((Int32.ofNat LL) - 6) < s.1 then some (.inr (.inl (s.1, s.2.1, s.2.2.1, s.2.2.2.1, s.2.2.2.2.1, s.2.2.2.2.2))) else gd (inb s.1 LL) (f_law_sw xs LL s.1 s.2.1 s.2.2.1 s.2.2.2.1 s.2.2.2.2.1 s.2.2.2.2.2 ((xs s.1.toNatClampNeg) &&& 63))
def f_law (xs : Nat → Int32) (LL : Nat) : Option ((Int32 × St × St × St × St × (Nat → Int64)) ⊕ Int32) := loopN (f_law_step xs LL) 600 (0, u0X, v0I, v0I, m0M, fun _ => 0)
