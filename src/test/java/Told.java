/** Tells texts to objects and counts what the tests find. */
final class Told {
    private int passed;
    private int failed;

    static OwnedSilence of(String text) {
        OwnedSilence x = new OwnedSilence();
        int lines = tell(x, text);
        if (lines < 0) {
            throw new IllegalStateException("fault " + x.fault(0) + " at " + x.fault(1) + " of " + text);
        }
        return x;
    }

    /** Feeds the text, with blanks behind it to fill twenty bytes, and answers text() of its length. */
    static int tell(OwnedSilence x, String text) {
        feed(x, text);
        return x.text(text.length());
    }

    static int feed(OwnedSilence x, String text) {
        int taped = 0;
        for (int at = 0; at < text.length(); at += 20) {
            int[] n = new int[5];
            for (int i = 0; i < 20; i++) {
                int sign = at + i < text.length() ? text.charAt(at + i) : ' ';
                n[i / 4] = n[i / 4] << 8 | sign & 255;
            }
            taped = x.feed(n[0], n[1], n[2], n[3], n[4]);
        }
        return taped;
    }

    /** Numbers that are none of 0 .. most, the nearest ones first. */
    static int[] besides(int most) {
        return new int[] {-1, most + 1, -2, most + 2, Integer.MIN_VALUE, Integer.MAX_VALUE};
    }

    static int letters(String word) {
        int bits = 0;
        for (int i = 0; i < 6; i++) {
            bits = bits << 5 | (i < word.length() ? word.charAt(i) - 'a' + 1 : 0);
        }
        return bits;
    }

    void due(String what, long got, long want) {
        if (got == want) {
            passed++;
        } else {
            failed++;
            System.out.println(what + " answered " + got + ", due is " + want);
        }
    }

    void due(String what, boolean got, boolean want) {
        due(what, got ? 1 : 0, want ? 1 : 0);
    }

    /** The text's FAULT and its place are as said (0, NONE: it has none). */
    void fault(String text, int kind, int at) {
        OwnedSilence x = new OwnedSilence();
        int lines = tell(x, text);
        due("whether text has a fault: " + text, lines < 0, kind != 0);
        due("fault(0) of " + text, x.fault(0), kind);
        due("fault(1) of " + text, x.fault(1), at);
    }

    void end() {
        System.out.println(passed + " answers as due, " + failed + " not");
        if (failed > 0 || passed == 0) {
            System.exit(1);
        }
    }
}
