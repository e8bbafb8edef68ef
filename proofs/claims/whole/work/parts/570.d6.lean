theorem dL_law_2619 : decode cL_law 2619 = .ok (.lcmp, 1) := by decide +kernel
theorem dL_law_2620 : decode cL_law 2620 = .ok (.ifCond .eq 5, 3) := by decide +kernel
theorem dL_law_2623 : decode cL_law 2623 = .ok (.iconst 0, 1) := by decide +kernel
theorem dL_law_2624 : decode cL_law 2624 = .ok (.ireturn, 1) := by decide +kernel
theorem dL_law_2625 : decode cL_law 2625 = .ok (.goto 697, 3) := by decide +kernel
theorem dL_law_2628 : decode cL_law 2628 = .ok (.aload_n 1, 1) := by decide +kernel
theorem dL_law_2629 : decode cL_law 2629 = .ok (.aload_n 0, 1) := by decide +kernel
theorem dL_law_2630 : decode cL_law 2630 = .ok (.iload 4, 2) := by decide +kernel
theorem dL_law_2632 : decode cL_law 2632 = .ok (.iconst 1, 1) := by decide +kernel
theorem dL_law_2633 : decode cL_law 2633 = .ok (.iadd, 1) := by decide +kernel
theorem dL_law_2634 : decode cL_law 2634 = .ok (.iaload, 1) := by decide +kernel
theorem dL_law_2635 : decode cL_law 2635 = .ok (.aload_n 0, 1) := by decide +kernel
theorem dL_law_2636 : decode cL_law 2636 = .ok (.iload 4, 2) := by decide +kernel
theorem dL_law_2638 : decode cL_law 2638 = .ok (.iconst 2, 1) := by decide +kernel
theorem dL_law_2639 : decode cL_law 2639 = .ok (.iadd, 1) := by decide +kernel
theorem dL_law_2640 : decode cL_law 2640 = .ok (.iaload, 1) := by decide +kernel
theorem dL_law_2641 : decode cL_law 2641 = .ok (.aload_n 0, 1) := by decide +kernel
theorem dL_law_2642 : decode cL_law 2642 = .ok (.iload 4, 2) := by decide +kernel
theorem dL_law_2644 : decode cL_law 2644 = .ok (.iconst 3, 1) := by decide +kernel
theorem dL_law_2645 : decode cL_law 2645 = .ok (.iadd, 1) := by decide +kernel
theorem dL_law_2646 : decode cL_law 2646 = .ok (.iaload, 1) := by decide +kernel
theorem dL_law_2647 : decode cL_law 2647 = .ok (.aload_n 0, 1) := by decide +kernel
theorem dL_law_2648 : decode cL_law 2648 = .ok (.iload 4, 2) := by decide +kernel
theorem dL_law_2650 : decode cL_law 2650 = .ok (.iconst 4, 1) := by decide +kernel
theorem dL_law_2651 : decode cL_law 2651 = .ok (.iadd, 1) := by decide +kernel
theorem dL_law_2652 : decode cL_law 2652 = .ok (.iaload, 1) := by decide +kernel
theorem dL_law_2653 : decode cL_law 2653 = .ok (.aload_n 0, 1) := by decide +kernel
theorem dL_law_2654 : decode cL_law 2654 = .ok (.iload 4, 2) := by decide +kernel
theorem dL_law_2656 : decode cL_law 2656 = .ok (.iconst 5, 1) := by decide +kernel
theorem dL_law_2657 : decode cL_law 2657 = .ok (.iadd, 1) := by decide +kernel
theorem dL_law_2658 : decode cL_law 2658 = .ok (.iaload, 1) := by decide +kernel
theorem dL_law_2659 : decode cL_law 2659 = .ok (.aload_n 0, 1) := by decide +kernel
theorem dL_law_2660 : decode cL_law 2660 = .ok (.iload 4, 2) := by decide +kernel
theorem dL_law_2662 : decode cL_law 2662 = .ok (.bipush 6, 2) := by decide +kernel
theorem dL_law_2664 : decode cL_law 2664 = .ok (.iadd, 1) := by decide +kernel
theorem dL_law_2665 : decode cL_law 2665 = .ok (.iaload, 1) := by decide +kernel
theorem dL_law_2666 : decode cL_law 2666 = .ok (.aload_n 0, 1) := by decide +kernel
theorem dL_law_2667 : decode cL_law 2667 = .ok (.iload 4, 2) := by decide +kernel
theorem dL_law_2669 : decode cL_law 2669 = .ok (.bipush 7, 2) := by decide +kernel
theorem dL_law_2671 : decode cL_law 2671 = .ok (.iadd, 1) := by decide +kernel
theorem dL_law_2672 : decode cL_law 2672 = .ok (.iaload, 1) := by decide +kernel
theorem dL_law_2673 : decode cL_law 2673 = .ok (.aload_n 3, 1) := by decide +kernel
theorem dL_law_2674 : decode cL_law 2674 = .ok (.invokestatic 194, 3) := by decide +kernel
theorem dL_law_2677 : decode cL_law 2677 = .ok (.istore 5, 2) := by decide +kernel
theorem dL_law_2679 : decode cL_law 2679 = .ok (.aload_n 2, 1) := by decide +kernel
theorem dL_law_2680 : decode cL_law 2680 = .ok (.aload_n 0, 1) := by decide +kernel
theorem dL_law_2681 : decode cL_law 2681 = .ok (.iload 4, 2) := by decide +kernel
theorem dL_law_2683 : decode cL_law 2683 = .ok (.iconst 1, 1) := by decide +kernel
theorem dL_law_2684 : decode cL_law 2684 = .ok (.iadd, 1) := by decide +kernel
theorem dL_law_2685 : decode cL_law 2685 = .ok (.iaload, 1) := by decide +kernel
theorem dL_law_2686 : decode cL_law 2686 = .ok (.aload_n 0, 1) := by decide +kernel
theorem dL_law_2687 : decode cL_law 2687 = .ok (.iload 4, 2) := by decide +kernel
theorem dL_law_2689 : decode cL_law 2689 = .ok (.iconst 2, 1) := by decide +kernel
theorem dL_law_2690 : decode cL_law 2690 = .ok (.iadd, 1) := by decide +kernel
theorem dL_law_2691 : decode cL_law 2691 = .ok (.iaload, 1) := by decide +kernel
theorem dL_law_2692 : decode cL_law 2692 = .ok (.aload_n 0, 1) := by decide +kernel
theorem dL_law_2693 : decode cL_law 2693 = .ok (.iload 4, 2) := by decide +kernel
theorem dL_law_2695 : decode cL_law 2695 = .ok (.iconst 3, 1) := by decide +kernel
theorem dL_law_2696 : decode cL_law 2696 = .ok (.iadd, 1) := by decide +kernel
theorem dL_law_2697 : decode cL_law 2697 = .ok (.iaload, 1) := by decide +kernel
theorem dL_law_2698 : decode cL_law 2698 = .ok (.aload_n 0, 1) := by decide +kernel
theorem dL_law_2699 : decode cL_law 2699 = .ok (.iload 4, 2) := by decide +kernel
theorem dL_law_2701 : decode cL_law 2701 = .ok (.iconst 4, 1) := by decide +kernel
theorem dL_law_2702 : decode cL_law 2702 = .ok (.iadd, 1) := by decide +kernel
theorem dL_law_2703 : decode cL_law 2703 = .ok (.iaload, 1) := by decide +kernel
theorem dL_law_2704 : decode cL_law 2704 = .ok (.aload_n 0, 1) := by decide +kernel
theorem dL_law_2705 : decode cL_law 2705 = .ok (.iload 4, 2) := by decide +kernel
theorem dL_law_2707 : decode cL_law 2707 = .ok (.iconst 5, 1) := by decide +kernel
theorem dL_law_2708 : decode cL_law 2708 = .ok (.iadd, 1) := by decide +kernel
theorem dL_law_2709 : decode cL_law 2709 = .ok (.iaload, 1) := by decide +kernel
theorem dL_law_2710 : decode cL_law 2710 = .ok (.aload_n 0, 1) := by decide +kernel
theorem dL_law_2711 : decode cL_law 2711 = .ok (.iload 4, 2) := by decide +kernel
theorem dL_law_2713 : decode cL_law 2713 = .ok (.bipush 6, 2) := by decide +kernel
theorem dL_law_2715 : decode cL_law 2715 = .ok (.iadd, 1) := by decide +kernel
theorem dL_law_2716 : decode cL_law 2716 = .ok (.iaload, 1) := by decide +kernel
theorem dL_law_2717 : decode cL_law 2717 = .ok (.aload_n 0, 1) := by decide +kernel
theorem dL_law_2718 : decode cL_law 2718 = .ok (.iload 4, 2) := by decide +kernel
theorem dL_law_2720 : decode cL_law 2720 = .ok (.bipush 7, 2) := by decide +kernel
theorem dL_law_2722 : decode cL_law 2722 = .ok (.iadd, 1) := by decide +kernel
theorem dL_law_2723 : decode cL_law 2723 = .ok (.iaload, 1) := by decide +kernel
theorem dL_law_2724 : decode cL_law 2724 = .ok (.invokevirtual 196, 3) := by decide +kernel
theorem dL_law_2727 : decode cL_law 2727 = .ok (.istore 6, 2) := by decide +kernel
theorem dL_law_2729 : decode cL_law 2729 = .ok (.aload_n 2, 1) := by decide +kernel
theorem dL_law_2730 : decode cL_law 2730 = .ok (.invokevirtual 98, 3) := by decide +kernel
theorem dL_law_2733 : decode cL_law 2733 = .ok (.iload 5, 2) := by decide +kernel
theorem dL_law_2735 : decode cL_law 2735 = .ok (.if_icmp .eq 5, 3) := by decide +kernel
theorem dL_law_2738 : decode cL_law 2738 = .ok (.iconst 0, 1) := by decide +kernel
theorem dL_law_2739 : decode cL_law 2739 = .ok (.ireturn, 1) := by decide +kernel
theorem dL_law_2740 : decode cL_law 2740 = .ok (.iload 5, 2) := by decide +kernel
theorem dL_law_2742 : decode cL_law 2742 = .ok (.ifCond .ne 15, 3) := by decide +kernel
theorem dL_law_2745 : decode cL_law 2745 = .ok (.aload_n 3, 1) := by decide +kernel
theorem dL_law_2746 : decode cL_law 2746 = .ok (.iconst 0, 1) := by decide +kernel
theorem dL_law_2747 : decode cL_law 2747 = .ok (.laload, 1) := by decide +kernel
theorem dL_law_2748 : decode cL_law 2748 = .ok (.iload 6, 2) := by decide +kernel
theorem dL_law_2750 : decode cL_law 2750 = .ok (.i2l, 1) := by decide +kernel
theorem dL_law_2751 : decode cL_law 2751 = .ok (.lcmp, 1) := by decide +kernel
theorem dL_law_2752 : decode cL_law 2752 = .ok (.ifCond .eq 5, 3) := by decide +kernel
theorem dL_law_2755 : decode cL_law 2755 = .ok (.iconst 0, 1) := by decide +kernel
theorem dL_law_2756 : decode cL_law 2756 = .ok (.ireturn, 1) := by decide +kernel
theorem dL_law_2757 : decode cL_law 2757 = .ok (.goto 565, 3) := by decide +kernel
theorem dL_law_2760 : decode cL_law 2760 = .ok (.aload_n 1, 1) := by decide +kernel
theorem dL_law_2761 : decode cL_law 2761 = .ok (.aload_n 0, 1) := by decide +kernel
theorem dL_law_2762 : decode cL_law 2762 = .ok (.iload 4, 2) := by decide +kernel
theorem dL_law_2764 : decode cL_law 2764 = .ok (.iconst 1, 1) := by decide +kernel
theorem dL_law_2765 : decode cL_law 2765 = .ok (.iadd, 1) := by decide +kernel
theorem dL_law_2766 : decode cL_law 2766 = .ok (.iaload, 1) := by decide +kernel
theorem dL_law_2767 : decode cL_law 2767 = .ok (.aload_n 0, 1) := by decide +kernel
theorem dL_law_2768 : decode cL_law 2768 = .ok (.iload 4, 2) := by decide +kernel
theorem dL_law_2770 : decode cL_law 2770 = .ok (.iconst 2, 1) := by decide +kernel
theorem dL_law_2771 : decode cL_law 2771 = .ok (.iadd, 1) := by decide +kernel
theorem dL_law_2772 : decode cL_law 2772 = .ok (.iaload, 1) := by decide +kernel
theorem dL_law_2773 : decode cL_law 2773 = .ok (.aload_n 0, 1) := by decide +kernel
theorem dL_law_2774 : decode cL_law 2774 = .ok (.iload 4, 2) := by decide +kernel
theorem dL_law_2776 : decode cL_law 2776 = .ok (.iconst 3, 1) := by decide +kernel
theorem dL_law_2777 : decode cL_law 2777 = .ok (.iadd, 1) := by decide +kernel
theorem dL_law_2778 : decode cL_law 2778 = .ok (.iaload, 1) := by decide +kernel
theorem dL_law_2779 : decode cL_law 2779 = .ok (.aload_n 0, 1) := by decide +kernel
theorem dL_law_2780 : decode cL_law 2780 = .ok (.iload 4, 2) := by decide +kernel
theorem dL_law_2782 : decode cL_law 2782 = .ok (.iconst 4, 1) := by decide +kernel
theorem dL_law_2783 : decode cL_law 2783 = .ok (.iadd, 1) := by decide +kernel
theorem dL_law_2784 : decode cL_law 2784 = .ok (.iaload, 1) := by decide +kernel
theorem dL_law_2785 : decode cL_law 2785 = .ok (.aload_n 0, 1) := by decide +kernel
theorem dL_law_2786 : decode cL_law 2786 = .ok (.iload 4, 2) := by decide +kernel
theorem dL_law_2788 : decode cL_law 2788 = .ok (.iconst 5, 1) := by decide +kernel
theorem dL_law_2789 : decode cL_law 2789 = .ok (.iadd, 1) := by decide +kernel
theorem dL_law_2790 : decode cL_law 2790 = .ok (.iaload, 1) := by decide +kernel
theorem dL_law_2791 : decode cL_law 2791 = .ok (.aload_n 0, 1) := by decide +kernel
theorem dL_law_2792 : decode cL_law 2792 = .ok (.iload 4, 2) := by decide +kernel
theorem dL_law_2794 : decode cL_law 2794 = .ok (.bipush 6, 2) := by decide +kernel
theorem dL_law_2796 : decode cL_law 2796 = .ok (.iadd, 1) := by decide +kernel
theorem dL_law_2797 : decode cL_law 2797 = .ok (.iaload, 1) := by decide +kernel
theorem dL_law_2798 : decode cL_law 2798 = .ok (.aload_n 3, 1) := by decide +kernel
theorem dL_law_2799 : decode cL_law 2799 = .ok (.invokestatic 197, 3) := by decide +kernel
theorem dL_law_2802 : decode cL_law 2802 = .ok (.istore 5, 2) := by decide +kernel
theorem dL_law_2804 : decode cL_law 2804 = .ok (.aload_n 2, 1) := by decide +kernel
theorem dL_law_2805 : decode cL_law 2805 = .ok (.aload_n 0, 1) := by decide +kernel
theorem dL_law_2806 : decode cL_law 2806 = .ok (.iload 4, 2) := by decide +kernel
theorem dL_law_2808 : decode cL_law 2808 = .ok (.iconst 1, 1) := by decide +kernel
theorem dL_law_2809 : decode cL_law 2809 = .ok (.iadd, 1) := by decide +kernel
theorem dL_law_2810 : decode cL_law 2810 = .ok (.iaload, 1) := by decide +kernel
theorem dL_law_2811 : decode cL_law 2811 = .ok (.aload_n 0, 1) := by decide +kernel
theorem dL_law_2812 : decode cL_law 2812 = .ok (.iload 4, 2) := by decide +kernel
theorem dL_law_2814 : decode cL_law 2814 = .ok (.iconst 2, 1) := by decide +kernel
theorem dL_law_2815 : decode cL_law 2815 = .ok (.iadd, 1) := by decide +kernel
theorem dL_law_2816 : decode cL_law 2816 = .ok (.iaload, 1) := by decide +kernel
theorem dL_law_2817 : decode cL_law 2817 = .ok (.aload_n 0, 1) := by decide +kernel
theorem dL_law_2818 : decode cL_law 2818 = .ok (.iload 4, 2) := by decide +kernel
theorem dL_law_2820 : decode cL_law 2820 = .ok (.iconst 3, 1) := by decide +kernel
theorem dL_law_2821 : decode cL_law 2821 = .ok (.iadd, 1) := by decide +kernel
theorem dL_law_2822 : decode cL_law 2822 = .ok (.iaload, 1) := by decide +kernel
theorem dL_law_2823 : decode cL_law 2823 = .ok (.aload_n 0, 1) := by decide +kernel
theorem dL_law_2824 : decode cL_law 2824 = .ok (.iload 4, 2) := by decide +kernel
theorem dL_law_2826 : decode cL_law 2826 = .ok (.iconst 4, 1) := by decide +kernel
theorem dL_law_2827 : decode cL_law 2827 = .ok (.iadd, 1) := by decide +kernel
theorem dL_law_2828 : decode cL_law 2828 = .ok (.iaload, 1) := by decide +kernel
theorem dL_law_2829 : decode cL_law 2829 = .ok (.aload_n 0, 1) := by decide +kernel
theorem dL_law_2830 : decode cL_law 2830 = .ok (.iload 4, 2) := by decide +kernel
theorem dL_law_2832 : decode cL_law 2832 = .ok (.iconst 5, 1) := by decide +kernel
theorem dL_law_2833 : decode cL_law 2833 = .ok (.iadd, 1) := by decide +kernel
theorem dL_law_2834 : decode cL_law 2834 = .ok (.iaload, 1) := by decide +kernel
theorem dL_law_2835 : decode cL_law 2835 = .ok (.aload_n 0, 1) := by decide +kernel
theorem dL_law_2836 : decode cL_law 2836 = .ok (.iload 4, 2) := by decide +kernel
theorem dL_law_2838 : decode cL_law 2838 = .ok (.bipush 6, 2) := by decide +kernel
theorem dL_law_2840 : decode cL_law 2840 = .ok (.iadd, 1) := by decide +kernel
theorem dL_law_2841 : decode cL_law 2841 = .ok (.iaload, 1) := by decide +kernel
theorem dL_law_2842 : decode cL_law 2842 = .ok (.invokevirtual 199, 3) := by decide +kernel
theorem dL_law_2845 : decode cL_law 2845 = .ok (.istore 6, 2) := by decide +kernel
theorem dL_law_2847 : decode cL_law 2847 = .ok (.aload_n 2, 1) := by decide +kernel
theorem dL_law_2848 : decode cL_law 2848 = .ok (.invokevirtual 98, 3) := by decide +kernel
theorem dL_law_2851 : decode cL_law 2851 = .ok (.iload 5, 2) := by decide +kernel
theorem dL_law_2853 : decode cL_law 2853 = .ok (.if_icmp .eq 5, 3) := by decide +kernel
theorem dL_law_2856 : decode cL_law 2856 = .ok (.iconst 0, 1) := by decide +kernel
theorem dL_law_2857 : decode cL_law 2857 = .ok (.ireturn, 1) := by decide +kernel
theorem dL_law_2858 : decode cL_law 2858 = .ok (.iload 5, 2) := by decide +kernel
theorem dL_law_2860 : decode cL_law 2860 = .ok (.ifCond .ne 15, 3) := by decide +kernel
theorem dL_law_2863 : decode cL_law 2863 = .ok (.aload_n 3, 1) := by decide +kernel
theorem dL_law_2864 : decode cL_law 2864 = .ok (.iconst 0, 1) := by decide +kernel
theorem dL_law_2865 : decode cL_law 2865 = .ok (.laload, 1) := by decide +kernel
theorem dL_law_2866 : decode cL_law 2866 = .ok (.iload 6, 2) := by decide +kernel
theorem dL_law_2868 : decode cL_law 2868 = .ok (.i2l, 1) := by decide +kernel
theorem dL_law_2869 : decode cL_law 2869 = .ok (.lcmp, 1) := by decide +kernel
theorem dL_law_2870 : decode cL_law 2870 = .ok (.ifCond .eq 5, 3) := by decide +kernel
theorem dL_law_2873 : decode cL_law 2873 = .ok (.iconst 0, 1) := by decide +kernel
theorem dL_law_2874 : decode cL_law 2874 = .ok (.ireturn, 1) := by decide +kernel
theorem dL_law_2875 : decode cL_law 2875 = .ok (.goto 447, 3) := by decide +kernel
theorem dL_law_2878 : decode cL_law 2878 = .ok (.aload_n 1, 1) := by decide +kernel
theorem dL_law_2879 : decode cL_law 2879 = .ok (.aload_n 0, 1) := by decide +kernel
theorem dL_law_2880 : decode cL_law 2880 = .ok (.iload 4, 2) := by decide +kernel
theorem dL_law_2882 : decode cL_law 2882 = .ok (.iconst 1, 1) := by decide +kernel
theorem dL_law_2883 : decode cL_law 2883 = .ok (.iadd, 1) := by decide +kernel
theorem dL_law_2884 : decode cL_law 2884 = .ok (.iaload, 1) := by decide +kernel
theorem dL_law_2885 : decode cL_law 2885 = .ok (.aload_n 0, 1) := by decide +kernel
theorem dL_law_2886 : decode cL_law 2886 = .ok (.iload 4, 2) := by decide +kernel
theorem dL_law_2888 : decode cL_law 2888 = .ok (.iconst 2, 1) := by decide +kernel
theorem dL_law_2889 : decode cL_law 2889 = .ok (.iadd, 1) := by decide +kernel
theorem dL_law_2890 : decode cL_law 2890 = .ok (.iaload, 1) := by decide +kernel
theorem dL_law_2891 : decode cL_law 2891 = .ok (.aload_n 0, 1) := by decide +kernel
theorem dL_law_2892 : decode cL_law 2892 = .ok (.iload 4, 2) := by decide +kernel
theorem dL_law_2894 : decode cL_law 2894 = .ok (.iconst 3, 1) := by decide +kernel
theorem dL_law_2895 : decode cL_law 2895 = .ok (.iadd, 1) := by decide +kernel
theorem dL_law_2896 : decode cL_law 2896 = .ok (.iaload, 1) := by decide +kernel
theorem dL_law_2897 : decode cL_law 2897 = .ok (.aload_n 0, 1) := by decide +kernel
theorem dL_law_2898 : decode cL_law 2898 = .ok (.iload 4, 2) := by decide +kernel
theorem dL_law_2900 : decode cL_law 2900 = .ok (.iconst 4, 1) := by decide +kernel
theorem dL_law_2901 : decode cL_law 2901 = .ok (.iadd, 1) := by decide +kernel
theorem dL_law_2902 : decode cL_law 2902 = .ok (.iaload, 1) := by decide +kernel
theorem dL_law_2903 : decode cL_law 2903 = .ok (.aload_n 0, 1) := by decide +kernel
theorem dL_law_2904 : decode cL_law 2904 = .ok (.iload 4, 2) := by decide +kernel
theorem dL_law_2906 : decode cL_law 2906 = .ok (.iconst 5, 1) := by decide +kernel
theorem dL_law_2907 : decode cL_law 2907 = .ok (.iadd, 1) := by decide +kernel
theorem dL_law_2908 : decode cL_law 2908 = .ok (.iaload, 1) := by decide +kernel
theorem dL_law_2909 : decode cL_law 2909 = .ok (.aload_n 0, 1) := by decide +kernel
theorem dL_law_2910 : decode cL_law 2910 = .ok (.iload 4, 2) := by decide +kernel
theorem dL_law_2912 : decode cL_law 2912 = .ok (.bipush 6, 2) := by decide +kernel
theorem dL_law_2914 : decode cL_law 2914 = .ok (.iadd, 1) := by decide +kernel
theorem dL_law_2915 : decode cL_law 2915 = .ok (.iaload, 1) := by decide +kernel
theorem dL_law_2916 : decode cL_law 2916 = .ok (.aload_n 3, 1) := by decide +kernel
theorem dL_law_2917 : decode cL_law 2917 = .ok (.invokestatic 200, 3) := by decide +kernel
theorem dL_law_2920 : decode cL_law 2920 = .ok (.istore 5, 2) := by decide +kernel
theorem dL_law_2922 : decode cL_law 2922 = .ok (.aload_n 2, 1) := by decide +kernel
theorem dL_law_2923 : decode cL_law 2923 = .ok (.aload_n 0, 1) := by decide +kernel
theorem dL_law_2924 : decode cL_law 2924 = .ok (.iload 4, 2) := by decide +kernel
theorem dL_law_2926 : decode cL_law 2926 = .ok (.iconst 1, 1) := by decide +kernel
theorem dL_law_2927 : decode cL_law 2927 = .ok (.iadd, 1) := by decide +kernel
theorem dL_law_2928 : decode cL_law 2928 = .ok (.iaload, 1) := by decide +kernel
theorem dL_law_2929 : decode cL_law 2929 = .ok (.aload_n 0, 1) := by decide +kernel
theorem dL_law_2930 : decode cL_law 2930 = .ok (.iload 4, 2) := by decide +kernel
theorem dL_law_2932 : decode cL_law 2932 = .ok (.iconst 2, 1) := by decide +kernel
theorem dL_law_2933 : decode cL_law 2933 = .ok (.iadd, 1) := by decide +kernel
theorem dL_law_2934 : decode cL_law 2934 = .ok (.iaload, 1) := by decide +kernel
theorem dL_law_2935 : decode cL_law 2935 = .ok (.aload_n 0, 1) := by decide +kernel
theorem dL_law_2936 : decode cL_law 2936 = .ok (.iload 4, 2) := by decide +kernel
theorem dL_law_2938 : decode cL_law 2938 = .ok (.iconst 3, 1) := by decide +kernel
theorem dL_law_2939 : decode cL_law 2939 = .ok (.iadd, 1) := by decide +kernel
theorem dL_law_2940 : decode cL_law 2940 = .ok (.iaload, 1) := by decide +kernel
theorem dL_law_2941 : decode cL_law 2941 = .ok (.aload_n 0, 1) := by decide +kernel
theorem dL_law_2942 : decode cL_law 2942 = .ok (.iload 4, 2) := by decide +kernel
theorem dL_law_2944 : decode cL_law 2944 = .ok (.iconst 4, 1) := by decide +kernel
theorem dL_law_2945 : decode cL_law 2945 = .ok (.iadd, 1) := by decide +kernel
theorem dL_law_2946 : decode cL_law 2946 = .ok (.iaload, 1) := by decide +kernel
theorem dL_law_2947 : decode cL_law 2947 = .ok (.aload_n 0, 1) := by decide +kernel
theorem dL_law_2948 : decode cL_law 2948 = .ok (.iload 4, 2) := by decide +kernel
theorem dL_law_2950 : decode cL_law 2950 = .ok (.iconst 5, 1) := by decide +kernel
theorem dL_law_2951 : decode cL_law 2951 = .ok (.iadd, 1) := by decide +kernel
theorem dL_law_2952 : decode cL_law 2952 = .ok (.iaload, 1) := by decide +kernel
theorem dL_law_2953 : decode cL_law 2953 = .ok (.aload_n 0, 1) := by decide +kernel
theorem dL_law_2954 : decode cL_law 2954 = .ok (.iload 4, 2) := by decide +kernel
theorem dL_law_2956 : decode cL_law 2956 = .ok (.bipush 6, 2) := by decide +kernel
theorem dL_law_2958 : decode cL_law 2958 = .ok (.iadd, 1) := by decide +kernel
theorem dL_law_2959 : decode cL_law 2959 = .ok (.iaload, 1) := by decide +kernel
theorem dL_law_2960 : decode cL_law 2960 = .ok (.invokevirtual 202, 3) := by decide +kernel
theorem dL_law_2963 : decode cL_law 2963 = .ok (.istore 6, 2) := by decide +kernel
theorem dL_law_2965 : decode cL_law 2965 = .ok (.aload_n 2, 1) := by decide +kernel
theorem dL_law_2966 : decode cL_law 2966 = .ok (.invokevirtual 98, 3) := by decide +kernel
theorem dL_law_2969 : decode cL_law 2969 = .ok (.iload 5, 2) := by decide +kernel
theorem dL_law_2971 : decode cL_law 2971 = .ok (.if_icmp .eq 5, 3) := by decide +kernel
theorem dL_law_2974 : decode cL_law 2974 = .ok (.iconst 0, 1) := by decide +kernel
theorem dL_law_2975 : decode cL_law 2975 = .ok (.ireturn, 1) := by decide +kernel
theorem dL_law_2976 : decode cL_law 2976 = .ok (.iload 5, 2) := by decide +kernel
theorem dL_law_2978 : decode cL_law 2978 = .ok (.ifCond .ne 15, 3) := by decide +kernel
theorem dL_law_2981 : decode cL_law 2981 = .ok (.aload_n 3, 1) := by decide +kernel
theorem dL_law_2982 : decode cL_law 2982 = .ok (.iconst 0, 1) := by decide +kernel
theorem dL_law_2983 : decode cL_law 2983 = .ok (.laload, 1) := by decide +kernel
theorem dL_law_2984 : decode cL_law 2984 = .ok (.iload 6, 2) := by decide +kernel
theorem dL_law_2986 : decode cL_law 2986 = .ok (.i2l, 1) := by decide +kernel
theorem dL_law_2987 : decode cL_law 2987 = .ok (.lcmp, 1) := by decide +kernel
theorem dL_law_2988 : decode cL_law 2988 = .ok (.ifCond .eq 5, 3) := by decide +kernel
theorem dL_law_2991 : decode cL_law 2991 = .ok (.iconst 0, 1) := by decide +kernel
theorem dL_law_2992 : decode cL_law 2992 = .ok (.ireturn, 1) := by decide +kernel
theorem dL_law_2993 : decode cL_law 2993 = .ok (.goto 329, 3) := by decide +kernel
theorem dL_law_2996 : decode cL_law 2996 = .ok (.aload_n 1, 1) := by decide +kernel
theorem dL_law_2997 : decode cL_law 2997 = .ok (.aload_n 0, 1) := by decide +kernel
theorem dL_law_2998 : decode cL_law 2998 = .ok (.iload 4, 2) := by decide +kernel
theorem dL_law_3000 : decode cL_law 3000 = .ok (.iconst 1, 1) := by decide +kernel
theorem dL_law_3001 : decode cL_law 3001 = .ok (.iadd, 1) := by decide +kernel
theorem dL_law_3002 : decode cL_law 3002 = .ok (.iaload, 1) := by decide +kernel
theorem dL_law_3003 : decode cL_law 3003 = .ok (.aload_n 0, 1) := by decide +kernel
theorem dL_law_3004 : decode cL_law 3004 = .ok (.iload 4, 2) := by decide +kernel
theorem dL_law_3006 : decode cL_law 3006 = .ok (.iconst 2, 1) := by decide +kernel
theorem dL_law_3007 : decode cL_law 3007 = .ok (.iadd, 1) := by decide +kernel
theorem dL_law_3008 : decode cL_law 3008 = .ok (.iaload, 1) := by decide +kernel
theorem dL_law_3009 : decode cL_law 3009 = .ok (.invokevirtual 203, 3) := by decide +kernel
theorem dL_law_3012 : decode cL_law 3012 = .ok (.aload_n 2, 1) := by decide +kernel
theorem dL_law_3013 : decode cL_law 3013 = .ok (.aload_n 0, 1) := by decide +kernel
theorem dL_law_3014 : decode cL_law 3014 = .ok (.iload 4, 2) := by decide +kernel
theorem dL_law_3016 : decode cL_law 3016 = .ok (.iconst 1, 1) := by decide +kernel
theorem dL_law_3017 : decode cL_law 3017 = .ok (.iadd, 1) := by decide +kernel
theorem dL_law_3018 : decode cL_law 3018 = .ok (.iaload, 1) := by decide +kernel
theorem dL_law_3019 : decode cL_law 3019 = .ok (.aload_n 0, 1) := by decide +kernel
theorem dL_law_3020 : decode cL_law 3020 = .ok (.iload 4, 2) := by decide +kernel
theorem dL_law_3022 : decode cL_law 3022 = .ok (.iconst 2, 1) := by decide +kernel
theorem dL_law_3023 : decode cL_law 3023 = .ok (.iadd, 1) := by decide +kernel
theorem dL_law_3024 : decode cL_law 3024 = .ok (.iaload, 1) := by decide +kernel
theorem dL_law_3025 : decode cL_law 3025 = .ok (.invokevirtual 206, 3) := by decide +kernel
theorem dL_law_3028 : decode cL_law 3028 = .ok (.if_icmp .eq 294, 3) := by decide +kernel
theorem dL_law_3031 : decode cL_law 3031 = .ok (.iconst 0, 1) := by decide +kernel
theorem dL_law_3032 : decode cL_law 3032 = .ok (.ireturn, 1) := by decide +kernel
theorem dL_law_3033 : decode cL_law 3033 = .ok (.aload_n 1, 1) := by decide +kernel
theorem dL_law_3034 : decode cL_law 3034 = .ok (.aload_n 0, 1) := by decide +kernel
theorem dL_law_3035 : decode cL_law 3035 = .ok (.iload 4, 2) := by decide +kernel
