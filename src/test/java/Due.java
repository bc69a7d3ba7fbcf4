/** Counts and prints the calls whose answer is not the one that is due. */
final class Due {
    private int wrong;
    private int asked;

    void is(String call, long got, long want) {
        asked++;
        if (got != want) {
            wrong++;
            System.out.println(call + " answered " + got + ", due is " + want);
        }
    }

    /** Ends the program with 1 if an answer was wrong. */
    void end() {
        System.out.println(asked + " answers, " + wrong + " wrong");
        if (wrong != 0) {
            System.exit(1);
        }
    }

    /** Types a text as the tape takes it; answers what the last call answered. */
    static int type(PointingArms arms, String text) {
        int last = 0;
        for (int from = 0; from < text.length(); from += 8) {
            int to = Math.min(text.length(), from + 8);
            long w = 0;
            for (int i = from; i < to; i++) {
                w = w << 8 | text.charAt(i);
            }
            last = arms.type(w, to - from);
        }
        return last;
    }

    static int things(PointingArms arms, String text) {
        type(arms, text);
        return arms.things();
    }

    static int talk(PointingArms arms, String text) {
        type(arms, text);
        return arms.talk();
    }
}
