import java.util.NoSuchElementException;

/**
 * The bounds of what is heard and silent, whose that is and what it is worth (promises 6 to 21): above each test
 * stands the sentence of the document that names the bound.
 */
public final class SilenceEdgeTest {
    private static final Told T = new Told();
    private static final long ALL_DAY = (1L << 48) - 1;
    private static final String STREET = "place a;place b;place c;link a b 2;link b c 3;owner x 20;owner y 5;heir x y;"
            + "noise a x 10 19 4;claim y b 12 15;claim x c 0 47;";

    private static long bits(int from, int to) {
        return (1L << to + 1) - (1L << from);
    }

    // ---- what was told

    private static String thrown(OwnedSilence x, int owner, int what) {
        try {
            return Integer.toString(x.owner(owner, what));
        } catch (IndexOutOfBoundsException e) {
            return e.getClass() == IndexOutOfBoundsException.class ? "index" : e.toString();
        } catch (NoSuchElementException e) {
            return e.getClass() == NoSuchElementException.class ? "element" : e.toString();
        }
    }

    // "IndexOutOfBoundsException: no such OWNER. NoSuchElementException: no such what."
    private static void ownersAndWhats() {
        OwnedSilence x = Told.of(STREET);
        for (int what = 0; what <= 4; what++) {
            T.due("owner 1 " + what, thrown(x, 1, what).matches("-?\\d+"), true);
            for (int owner : Told.besides(1)) {
                T.due("owner " + owner + " " + what, thrown(x, owner, what).equals("index"), true);
            }
        }
        for (int what : Told.besides(4)) {
            T.due("owner 0 " + what, thrown(x, 0, what).equals("element"), true);
            T.due("owner 1 " + what, thrown(x, 1, what).equals("element"), true);
        }
        OwnedSilence four = Told.of("owner a 0;owner b 1;owner c 2;owner d 999;");
        T.due("the fourth owner", thrown(four, 3, 0).equals("999"), true);
        T.due("no fifth one", thrown(four, 4, 0).equals("index"), true);
        T.due("none of an empty TEXT", thrown(new OwnedSilence(), 0, 0).equals("index"), true);
        T.due("none of an empty TEXT, no what", thrown(new OwnedSilence(), 0, 9).equals("index"), true);
        T.due("the heir is the first one", thrown(Told.of("owner a 0;owner b 1;heir b a;"), 1, 1).equals("0"), true);
        T.due("no heir", thrown(four, 0, 1).equals("-1"), true);
    }

    // "NONE: no such ones." of noise, claim and link: rows and columns on both sides
    private static void rowsAndColumns() {
        OwnedSilence x = Told.of(STREET);
        for (int row : Told.besides(0)) {
            T.due("noise " + row, x.noise(row, 0), -1);
        }
        for (int row : Told.besides(1)) {
            T.due("claim " + row, x.claim(row, 0), -1);
            T.due("link " + row, x.link(row, 0), -1);
        }
        for (int what : Told.besides(5)) {
            T.due("noise's " + what, x.noise(0, what), -1);
        }
        for (int what : Told.besides(3)) {
            T.due("claim's " + what, x.claim(1, what), -1);
            T.due("link's " + what, x.link(1, what), -1);
        }
        T.due("the last column of a noise", x.noise(0, 5), 0);
        T.due("the last column of a claim", x.claim(1, 3), 47);
        T.due("the last column of a link", x.link(1, 3), 0);
        OwnedSilence none = new OwnedSilence();
        for (int what = 0; what < 6; what++) {
            T.due("no noise " + what, none.noise(0, what), -1);
            T.due("no claim " + what, none.claim(0, what), -1);
            T.due("no link " + what, none.link(0, what), -1);
        }
    }

    // ---- FAR

    // "0 from itself; or there is none"; "-2: there is no way; NONE: no such ones"
    private static void farOrNot() {
        OwnedSilence x = Told.of("place a;place b;place c;link a b 9;");
        T.due("from itself", x.far(0, 0), 0);
        T.due("from itself, without a link", x.far(2, 2), 0);
        T.due("either way", x.far(1, 0), 9);
        T.due("no way", x.far(0, 2), -2);
        T.due("no way back", x.far(2, 1), -2);
        for (int place : Told.besides(2)) {
            T.due("far from " + place, x.far(place, 0), -1);
            T.due("far to " + place, x.far(0, place), -1);
            T.due("far from and to " + place, x.far(place, place), -1);
        }
        T.due("no places", new OwnedSilence().far(0, 0), -1);
    }

    // "the least sum of LENGTHS (of a LINK with a WALL so much more) on any way": the longest there may be
    private static void theFarthest() {
        OwnedSilence x = Told.of("place a;place b;place c;place d;place e;place f;link a b 9;link c b 9;link c d 9;link e d 9;"
                + "link e f 9;wall 9;");
        T.due("by five links", x.far(0, 5), 45);
        for (int link = 0; link < 5; link++) {
            x.wall(link, true);
        }
        T.due("by five walls", x.far(5, 0), 90);
        OwnedSilence two = Told.of("place a;place b;place c;link a c 8;link a b 4;link b c 4;wall 1;");
        T.due("alike", two.far(0, 2), 8);
        two.wall(0, true);
        T.due("round about", two.far(0, 2), 8);
        two.wall(1, true);
        T.due("one more each way", two.far(0, 2), 9);
    }

    // "on any way": by the first PLACE and by the last one, too
    private static void farByAny() {
        OwnedSilence x = Told.of("place a;place b;place c;place d;place e;place f;link b a 2;link a c 3;link d f 1;link e f 4;link c f 9;"
                + "link b e 9;");
        int[][] due = {{0, 2, 3, 13, 11, 12}, {2, 0, 5, 14, 9, 13}, {3, 5, 0, 10, 13, 9}, {13, 14, 10, 0, 5, 1}, {11, 9, 13, 5, 0, 4},
            {12, 13, 9, 1, 4, 0}};
        for (int one = 0; one < 6; one++) {
            for (int other = 0; other < 6; other++) {
                T.due("far by any " + one + " " + other, x.far(one, other), due[one][other]);
            }
        }
    }

    // ---- laws

    private static long fade(String e) {
        return Told.of("law fade " + e + ";").law(0, 7, 8, 9);
    }

    // "each 0 .. 9999. Long.MIN_VALUE: an ERROR, no such law, no such ones."
    private static void lawNumbers() {
        OwnedSilence x = Told.of("law fade 5;law worth 6;");
        for (int what = 0; what < 2; what++) {
            T.due("least", x.law(what, 0, 0, 0), 5 + what);
            T.due("most", x.law(what, 9999, 9999, 9999), 5 + what);
            for (int none : Told.besides(9999)) {
                T.due("first " + none, x.law(what, none, 0, 0), Long.MIN_VALUE);
                T.due("second " + none, x.law(what, 0, none, 0), Long.MIN_VALUE);
                T.due("third " + none, x.law(what, 0, 0, none), Long.MIN_VALUE);
            }
        }
        for (int what : Told.besides(1)) {
            T.due("law " + what, x.law(what, 0, 0, 0), Long.MIN_VALUE);
        }
        T.due("no fade", Told.of("law worth 1;").law(0, 0, 0, 0), Long.MIN_VALUE);
        T.due("no worth", Told.of("law fade 1;").law(1, 0, 0, 0), Long.MIN_VALUE);
        T.due("neither", new OwnedSilence().law(0, 0, 0, 0), Long.MIN_VALUE);
    }

    // "NAMES of fade: loud, far, minute; of worth: long, many, who, minute; all others 0"; "(minute 0)"
    private static void lawNames() {
        OwnedSilence x = Told.of("law fade loud*(9999+1)*(9999+1)+far*(9999+1)+minute+(long+many+who)*9;"
                + "law worth long*(9999+1)*(9999+1)+many*(9999+1)+who+(loud+far+minute)*9;");
        T.due("fade", x.law(0, 9999, 9998, 9997), 999999989997L);
        T.due("worth", x.law(1, 9999, 9998, 9997), 999999989997L);
    }

    // "VALUES are longs; comparisons, and, or, not are 1 or 0 (what isn't 0 is as 1, both sides are worked out), / is cut
    // towards 0"
    private static void values() {
        T.due("more than an int", fade("9999*9999*9999"), 999700029999L);
        T.due("not of less than 0", fade("not (0-5)"), 0);
        T.due("and of less than 0", fade("(0-5) and 2"), 1);
        T.due("or of less than 0", fade("0 or (0-1)"), 1);
        T.due("neither", fade("0 or 0"), 0);
        T.due("both sides of or", fade("1 or 1/0"), Long.MIN_VALUE);
        T.due("both sides of or, the first", fade("1/0 or 1"), Long.MIN_VALUE);
        T.due("both sides of and", fade("0 and 1/0"), Long.MIN_VALUE);
        T.due("both sides of a comparison", fade("1/0=1/0"), Long.MIN_VALUE);
        T.due("not of an ERROR", fade("not (1/0)"), Long.MIN_VALUE);
        T.due("an ERROR times 0", fade("0*(1/0)"), Long.MIN_VALUE);
        T.due("cut", fade("7/2"), 3);
        T.due("cut below 0", fade("(0-7)/2"), -3);
        T.due("cut by below 0", fade("7/(0-2)"), -3);
        T.due("cut, both below 0", fade("(0-7)/(0-2)"), 3);
        T.due("cut to 0", fade("(0-1)/2"), 0);
        T.due("0 by", fade("0/5"), 0);
        T.due("0 by 0", fade("0/0"), Long.MIN_VALUE);
        for (int a = -1; a <= 1; a++) {
            String pair = "(0-1)".substring(0, a < 0 ? 5 : 0) + (a < 0 ? "" : Integer.toString(a));
            T.due(pair + "<0", fade(pair + "<0"), a < 0 ? 1 : 0);
            T.due(pair + "<=0", fade(pair + "<=0"), a <= 0 ? 1 : 0);
            T.due(pair + "=0", fade(pair + "=0"), a == 0 ? 1 : 0);
            T.due(pair + "<>0", fade(pair + "<>0"), a != 0 ? 1 : 0);
            T.due(pair + ">=0", fade(pair + ">=0"), a >= 0 ? 1 : 0);
            T.due(pair + ">0", fade(pair + ">0"), a > 0 ? 1 : 0);
        }
    }

    // "ERROR: / by 0, a value above 10 to the 12 or below 0 by more than that"
    private static void errors() {
        String most = "((9999+1)*(9999+1)*(9999+1))";
        T.due("10 to the 12 by times", fade(most), 1000000000000L);
        T.due("by plus", fade("(" + most + "-1)+1"), 1000000000000L);
        T.due("by minus", fade("(" + most + "-1)-(0-1)"), 1000000000000L);
        T.due("below 0 by that, by times", fade("0-(9999+1)*(9999+1)*(9999+1)"), -1000000000000L);
        T.due("below 0 by that, times -1", fade(most + "*(0-1)"), -1000000000000L);
        T.due("below 0 by that, by plus", fade("(1-" + most + ")+(0-1)"), -1000000000000L);
        T.due("below 0 by that, by minus", fade("(1-" + most + ")-1"), -1000000000000L);
        T.due("both below 0", fade("(0-" + most + ")*(0-1)"), 1000000000000L);
        T.due("one above by plus", fade(most + "+1"), Long.MIN_VALUE);
        T.due("one above by minus", fade(most + "-(0-1)"), Long.MIN_VALUE);
        T.due("one below by plus", fade("(0-" + most + ")+(0-1)"), Long.MIN_VALUE);
        T.due("one below by minus", fade("(0-" + most + ")-1"), Long.MIN_VALUE);
        // 1000001 times 999999 is 1 below 10 to the 12; 1000001 times 1000000 is above it.
        T.due("just below by times", fade("((9999+1)*100+1)*((9999+1)*100-1)"), 999999999999L);
        T.due("just above by times", fade("((9999+1)*100+1)*((9999+1)*100)"), Long.MIN_VALUE);
        T.due("just above by times, below 0", fade("(0-(9999+1)*100-1)*((9999+1)*100)"), Long.MIN_VALUE);
        T.due("just above, both below 0", fade("(0-(9999+1)*100-1)*(0-(9999+1)*100)"), Long.MIN_VALUE);
        T.due("times 0", fade(most + "*0"), 0);
        T.due("0 times", fade("0*" + most), 0);
        T.due("what would wrap", fade(most + "*" + most + "*" + most), Long.MIN_VALUE);
        T.due("what would wrap to 0", fade("8192*8192*8192*(8192*8192*8192)*8192"), Long.MIN_VALUE);
        T.due("on the way", fade(most + "+1-1"), Long.MIN_VALUE);
        T.due("by itself", fade(most + "/" + most), 1);
    }

    // ---- HEARD

    // "it is HEARD there, if that is at least 1 (not at all, if there is no way)"
    private static void atLeastOne() {
        String pair = "place a;place b;link a b 4;owner x 1;noise a x 5 5 ";
        T.due("1 remains", Told.of(pair + "5;").heard(1, 5), 0);
        T.due("0 remains", Told.of(pair + "4;").heard(1, 5), -2);
        T.due("less than 0 remains", Told.of(pair + "1;").heard(1, 5), -2);
        T.due("at its own place", Told.of(pair + "1;").heard(0, 5), 0);
        T.due("1 by law", Told.of(pair + "1;law fade 1;").heard(1, 5), 0);
        T.due("0 by law", Told.of(pair + "20;law fade 0;").heard(0, 5), -2);
        T.due("less than 0 by law", Told.of(pair + "20;law fade 0-9999;").heard(0, 5), -2);
        T.due("10 to the 12 by law", Told.of(pair + "1;law fade (9999+1)*(9999+1)*(9999+1);").heard(1, 5), 0);
        T.due("2 to the 32 by law", Told.of(pair + "1;law fade 8192*8192*64;").heard(1, 5), 0);
        T.due("below 0 by 2 to the 32 by law", Told.of(pair + "1;law fade 0-8192*8192*64;").heard(1, 5), -2);
        String apart = "place a;place b;owner x 1;noise a x 5 5 20;";
        T.due("no way", Told.of(apart).heard(1, 5), -2);
        T.due("no way, whatever the law", Told.of(apart + "law fade 9999;").heard(1, 5), -2);
        T.due("no way, nor by an ERROR", Told.of(apart + "law fade 1/0;").heard(1, 5), -2);
    }

    // "a MINUTE of it": both ends of a noise, both ends of the DAY
    private static void minutesOfANoise() {
        String town = "place a;owner x 1;noise a x ";
        int[][] times = {{0, 0}, {47, 47}, {0, 47}, {10, 10}, {10, 19}, {31, 32}, {0, 31}, {32, 47}};
        for (int[] time : times) {
            for (String law : new String[] {"", "law fade 1;", "law fade minute+1;"}) {
                OwnedSilence x = Told.of(town + time[0] + " " + time[1] + " 1;" + law);
                String told = time[0] + " to " + time[1] + " " + law;
                T.due("hush " + told, x.hush(0), ALL_DAY & ~bits(time[0], time[1]));
                T.due("from " + told, x.heard(0, time[0]), 0);
                T.due("to " + told, x.heard(0, time[1]), 0);
                T.due("ahead " + told, x.heard(0, time[0] - 1), time[0] == 0 ? -1 : -2);
                T.due("behind " + told, x.heard(0, time[1] + 1), time[1] == 47 ? -1 : -2);
            }
        }
    }

    // "(LOUD less FAR without, with an ERROR)": at that MINUTE alone
    private static void withAnError() {
        // By 0 at minute 10; 1 or more from 11 to 15; below 0 ahead.
        String law = "law fade 5/(minute-10);";
        OwnedSilence near = Told.of("place a;place b;link a b 3;owner x 1;noise a x 0 47 4;" + law);
        T.due("LOUD less FAR at 10", near.hush(1), ALL_DAY & ~bits(10, 15));
        OwnedSilence far = Told.of("place a;place b;link a b 4;owner x 1;noise a x 0 47 4;" + law);
        T.due("nothing of it at 10", far.hush(1), ALL_DAY & ~bits(11, 15));
        OwnedSilence without = Told.of("place a;place b;link a b 4;owner x 1;noise a x 0 47 5;law worth 0;");
        T.due("without a law", without.hush(1), 0);
    }

    // "The first NOISE HEARD at a PLACE and a MINUTE; -2: it is SILENT; NONE: no such ones."
    private static void placesAndMinutes() {
        OwnedSilence x = Told.of(STREET + "noise a y 19 20 1;noise b y 0 0 20;noise c y 47 47 20;");
        T.due("the first one", x.heard(0, 19), 0);
        T.due("the one behind", x.heard(0, 20), 1);
        T.due("minute 0", x.heard(2, 0), 2);
        T.due("minute 47", x.heard(2, 47), 3);
        T.due("silent", x.heard(2, 46), -2);
        for (int place : Told.besides(2)) {
            T.due("heard at " + place, x.heard(place, 0), -1);
            T.due("hush of " + place, x.hush(place), -1);
            T.due("whose at " + place, x.whose(place, 0), -1);
        }
        for (int minute : Told.besides(47)) {
            T.due("heard then " + minute, x.heard(0, minute), -1);
            T.due("whose then " + minute, x.whose(0, minute), -1);
        }
        x.stop(0);
        T.due("the next one, as it is stopped", x.heard(0, 19), 1);
        T.due("silent, as it is stopped", x.heard(0, 18), -2);
        OwnedSilence none = new OwnedSilence();
        T.due("no place to hear", none.heard(0, 0), -1);
        T.due("no place to hush", none.hush(0), -1);
        T.due("no place to own", none.whose(0, 0), -1);
        T.due("all of it", Told.of("place a;").hush(0), ALL_DAY);
        T.due("nothing of it", Told.of("place a;owner x 1;noise a x 0 47 1;").hush(0), 0);
    }

    // ---- whose

    // "a MINUTE at a PLACE belongs to the OWNER of the first CLAIM there that has it"
    private static void theFirstClaim() {
        OwnedSilence x = Told.of("place a;place b;owner x 1;owner y 1;owner z 1;claim y a 10 20;claim x a 0 47;claim z a 0 47;"
                + "claim z b 47 47;claim x b 0 0;");
        int[][] due = {{0, 0}, {9, 0}, {10, 1}, {20, 1}, {21, 0}, {47, 0}};
        for (int[] one : due) {
            T.due("at " + one[0], x.whose(0, one[0]), one[1]);
        }
        T.due("of another place, minute 0", x.whose(1, 0), 0);
        T.due("beside it", x.whose(1, 1), -2);
        T.due("ahead of the last one", x.whose(1, 46), -2);
        T.due("the last minute", x.whose(1, 47), 2);
    }

    // "else of the latest MINUTE ahead at which it wasn't SILENT there the OWNER of the first NOISE HEARD; else nobody's";
    // "-2: nobody's; -3: it isn't SILENT"
    private static void byTheNoiseAhead() {
        OwnedSilence x = Told.of("place a;owner x 1;owner y 1;noise a y 1 1 1;noise a x 1 2 1;noise a y 45 45 1;noise a x 46 46 1;"
                + "claim x a 44 46;");
        int[][] due = {{0, -2}, {1, -3}, {2, -3}, {3, 0}, {43, 0}, {44, 0}, {45, -3}, {46, -3}, {47, 0}};
        for (int[] one : due) {
            T.due("at " + one[0], x.whose(0, one[0]), one[1]);
        }
        OwnedSilence y = Told.of("place a;owner x 1;owner y 1;noise a y 46 46 1;noise a x 46 46 1;noise a x 0 0 1;noise a y 0 0 1;");
        T.due("the first one heard at 46", y.whose(0, 47), 1);
        T.due("the first one heard at 0", y.whose(0, 1), 0);
        T.due("no noise at all", Told.of("place a;owner x 1;").whose(0, 47), -2);
        OwnedSilence claimed = Told.of("place a;owner x 1;owner y 1;noise a y 5 5 1;claim x a 0 47;");
        T.due("claimed, but not silent", claimed.whose(0, 5), -3);
        T.due("claimed behind a noise", claimed.whose(0, 6), 0);
        T.due("their minutes", claimed.owner(0, 2) * 100 + claimed.owner(1, 2), 4700);
    }

    // "TRESPASS: a NOISE HEARD at a PLACE and MINUTE that is CLAIMED by another OWNER than who makes it, who has no RIGHT
    // there then (one each)"
    private static void trespass() {
        String town = "place a;place b;link a b 1;owner x 1;owner y 1;owner z 1;noise a x 0 47 1;";
        T.due("of all the day", Told.of(town + "claim y a 0 47;").count(13), 48);
        T.due("of one minute", Told.of(town + "claim y a 47 47;").count(13), 1);
        T.due("not claimed", Told.of(town).count(13), 0);
        T.due("not heard there", Told.of(town + "claim y b 0 47;").count(13), 0);
        T.due("one's own", Told.of(town + "claim x a 0 47;").count(13), 0);
        T.due("the first claim is one's own", Told.of(town + "claim x a 0 9;claim y a 0 47;").count(13), 38);
        T.due("a right from 0", Told.of(town + "claim y a 0 47;right x a 0 0;").count(13), 47);
        T.due("a right to 47", Told.of(town + "claim y a 0 47;right x a 40 47;").count(13), 40);
        T.due("a right at another place", Told.of(town + "claim y a 0 47;right x b 0 47;").count(13), 48);
        T.due("another one's right", Told.of(town + "claim y a 0 47;right z a 0 47;").count(13), 48);
        T.due("the owner's right", Told.of(town + "claim y a 0 47;right y a 0 47;").count(13), 48);
        OwnedSilence two = Told.of(town + "noise a x 5 5 2;noise a z 5 6 1;claim y a 0 9;claim z b 5 5;right x a 6 6;");
        // x at a: 0 to 9 but 6, once more at 5, at b once; z at a: 5 and 6.
        T.due("one each", two.count(13), 9 + 1 + 1 + 2);
        T.due("made by x", two.owner(0, 3), 11);
        T.due("made by z", two.owner(2, 3), 2);
        T.due("made by y", two.owner(1, 3), 0);
        T.due("suffered by y", two.owner(1, 4), 12);
        T.due("suffered by z", two.owner(2, 4), 1);
        two.go(48);
        T.due("of all the DAY, behind it", two.count(13), 13);
    }

    // ---- SPANS and PIECES

    // "rows of SILENT MINUTES at a PLACE, as long as can be"
    private static void asLongAsCanBe() {
        String town = "place a;owner x 1;noise a x ";
        int[][] due = {{0, 0, 1, 47}, {47, 47, 0, 46}, {0, 46, 47, 47}, {1, 47, 0, 0}};
        for (int[] one : due) {
            OwnedSilence x = Told.of(town + one[0] + " " + one[1] + " 1;");
            T.due("one span", x.spans(), 1);
            T.due("from", x.span(0, 1), one[2]);
            T.due("to", x.span(0, 2), one[3]);
        }
        T.due("none", Told.of(town + "0 47 1;").spans(), 0);
        T.due("none, no pieces", Told.of(town + "0 47 1;").pieces(), 0);
        OwnedSilence all = Told.of("place a;");
        T.due("all day from", all.span(0, 1), 0);
        T.due("all day to", all.span(0, 2), 47);
        OwnedSilence two = Told.of(town + "1 46 1;");
        T.due("two", two.spans(), 2);
        T.due("two pieces", two.pieces(), 2);
        T.due("the first to", two.span(0, 2), 0);
        T.due("the second from", two.span(1, 1), 47);
        OwnedSilence owned = Told.of("place a;owner x 1;claim x a 0 9;");
        T.due("of several owners", owned.spans(), 1);
    }

    // "Two SPANS TOUCH, if their PLACES have a LINK without a WALL and they have a MINUTE both"
    private static void touching() {
        String town = "place a;place b;link a b 9;owner x 1;";
        // a silent from 0 to 9, b from 10 on, or from 9 on.
        OwnedSilence apart = Told.of(town + "noise a x 10 47 1;noise b x 0 9 1;");
        T.due("no minute both", apart.pieces(), 2);
        OwnedSilence joined = Told.of(town + "noise a x 10 47 1;noise b x 0 8 1;");
        T.due("one minute both", joined.pieces(), 1);
        joined.wall(0, true);
        T.due("a wall", joined.pieces(), 2);
        OwnedSilence other = Told.of(town + "noise b x 10 47 1;noise a x 0 8 1;");
        T.due("one minute both, the other way", other.pieces(), 1);
        T.due("no minute both, the other way", Told.of(town + "noise b x 10 47 1;noise a x 0 9 1;").pieces(), 2);
        T.due("no link", Told.of("place a;place b;").pieces(), 2);
        // a and c touch by b alone; walled from b, c is a piece of its own.
        OwnedSilence row = Told.of("place a;place b;place c;link a b 9;link c b 9;");
        T.due("by others", row.pieces(), 1);
        T.due("by others, the piece of c", row.span(2, 3), 0);
        row.wall(1, true);
        T.due("not by others", row.pieces(), 2);
        T.due("the second piece's first place", row.span(2, 3), 1);
    }

    // "straight or by others": all of them have a LINK
    private static void notByOthers() {
        String row = "place a;place b;place c;owner x 1;noise a x 10 19 1;noise b x 10 47 1;";
        // a: 0 to 9, 20 to 47; b: 0 to 9; c all day, but c has no LINK to a.
        OwnedSilence x = Told.of(row + "link a b 9;link b c 9;");
        int[] due = {0, 1, 0, 0};
        for (int k = 0; k < 4; k++) {
            T.due("by b " + k, x.span(k, 3), due[k]);
        }
        OwnedSilence y = Told.of(row + "link a c 9;");
        int[] all = {0, 0, 1, 0};
        for (int k = 0; k < 4; k++) {
            T.due("by c " + k, y.span(k, 3), all[k]);
        }
        OwnedSilence z = Told.of(row + "link c b 9;link c a 9;");
        T.due("by c, all", z.pieces(), 1);
        z.wall(1, true);
        T.due("a alone", z.pieces(), 3);
    }

    // "numbered by PLACES, then MINUTES"; "numbered by their first SPANS"
    private static void numbered() {
        OwnedSilence x = Told.of("place a;place b;place c;link a c 9;owner x 1;noise a x 5 9 1;noise c x 5 9 1;noise b x 0 0 1;");
        int[][] due = {{0, 0, 4, 0}, {0, 10, 47, 1}, {1, 1, 47, 2}, {2, 0, 4, 0}, {2, 10, 47, 1}};
        T.due("spans", x.spans(), 5);
        T.due("pieces", x.pieces(), 3);
        for (int k = 0; k < 5; k++) {
            for (int what = 0; what < 4; what++) {
                T.due("span " + k + " " + what, x.span(k, what), due[k][what]);
            }
        }
        // LONG, MANY, OWNERS, WORTH, first MINUTE, SPANS.
        int[][] pieces = {{10, 2, 0, 10, 0, 2}, {76, 2, 1, 76, 10, 2}, {47, 1, 1, 47, 1, 1}};
        for (int k = 0; k < 3; k++) {
            for (int what = 0; what < 6; what++) {
                T.due("piece " + k + " " + what, x.piece(k, what), pieces[k][what]);
            }
        }
        OwnedSilence late = Told.of("place a;place b;link a b 9;owner x 1;noise a x 0 9 1;noise b x 0 4 1;");
        T.due("the first MINUTE of all of it", late.piece(0, 4), 5);
    }

    // "-2: there are no so many; NONE: no such ones."
    private static void howManyPieces() {
        OwnedSilence x = Told.of(STREET);
        for (int what = 0; what < 4; what++) {
            T.due("the last span " + what, x.span(4, what) >= 0, true);
            T.due("no span 5 " + what, x.span(5, what), -2);
            T.due("no span so far " + what, x.span(Integer.MAX_VALUE, what), -2);
            T.due("no span below " + what, x.span(-1, what), -1);
            T.due("no span far below " + what, x.span(Integer.MIN_VALUE, what), -1);
        }
        for (int what : Told.besides(3)) {
            T.due("span's " + what, x.span(0, what), -1);
            T.due("span's, of none " + what, x.span(5, what), -1);
        }
        for (int what = 0; what < 6; what++) {
            T.due("the last piece " + what, x.piece(0, what) >= 0, true);
            T.due("no piece 1 " + what, x.piece(1, what), -2);
            T.due("no piece so far " + what, x.piece(Integer.MAX_VALUE, what), -2);
            T.due("no piece below " + what, x.piece(-1, what), -1);
            T.due("no piece far below " + what, x.piece(Integer.MIN_VALUE, what), -1);
        }
        for (int what : Told.besides(5)) {
            T.due("piece's " + what, x.piece(0, what), -1);
            T.due("piece's, of none " + what, x.piece(1, what), -1);
        }
        for (int owner : Told.besides(1)) {
            T.due("share of " + owner, x.share(0, owner), -1);
            T.due("part of " + owner, x.part(0, owner), -1);
            T.due("share of none of " + owner, x.share(1, owner), -1);
            T.due("part of none of " + owner, x.part(1, owner), -1);
        }
        for (int piece : new int[] {1, 2, Integer.MAX_VALUE}) {
            T.due("share of piece " + piece, x.share(piece, 0), -2);
            T.due("part of piece " + piece, x.part(piece, 0), -2);
            T.due("leaves of piece " + piece, x.leaves(piece), -2);
        }
        for (int piece : new int[] {-1, -2, Integer.MIN_VALUE}) {
            T.due("share of piece " + piece, x.share(piece, 0), -1);
            T.due("part of piece " + piece, x.part(piece, 0), -1);
            T.due("leaves of piece " + piece, x.leaves(piece), -1);
        }
    }

    // no PLACES, no OWNERS
    private static void noPlacesNoOwners() {
        for (OwnedSilence x : new OwnedSilence[] {new OwnedSilence(), Told.of("owner x 1;")}) {
            T.due("no places, spans", x.spans(), 0);
            T.due("no places, span", x.span(0, 0), -2);
            T.due("no places, pieces", x.pieces(), 0);
            T.due("no places, piece", x.piece(0, 0), -2);
            T.due("no places, leaves", x.leaves(0), -2);
        }
        OwnedSilence owner = Told.of("owner x 1;");
        T.due("no places, share", owner.share(0, 0), -2);
        T.due("no places, part", owner.part(0, 0), -2);
        T.due("no places, their minutes", owner.owner(0, 2), 0);
        OwnedSilence place = Told.of("place a;law worth 7+who;");
        T.due("no owners, share", place.share(0, 0), -1);
        T.due("no owners, part", place.part(0, 0), -1);
        T.due("no owners, leaves", place.leaves(0), 0);
        T.due("no owners, whose any is", place.piece(0, 2), 0);
        T.due("no owners, WORTH", place.piece(0, 3), 7);
    }

    // ---- WORTH, PART, LEAVES

    // "E of worth (put to 0 .. 9999; LONG without, with an ERROR; ..)"
    private static void putToBounds() {
        String town = "place a;place b;owner x 1;claim x a 0 9;noise b x 0 47 1;";
        String[][] due = {{"9999", "9999"}, {"9999+1", "9999"}, {"9998", "9998"}, {"0", "0"}, {"0-1", "0"}, {"1", "1"},
            {"(9999+1)*(9999+1)*(9999+1)", "9999"}, {"0-(9999+1)*(9999+1)*(9999+1)", "0"}, {"8192*8192*64", "9999"},
            {"(9999+1)*(9999+1)*(9999+1)+1", "48"}, {"0-(9999+1)*(9999+1)*(9999+1)-1", "48"}, {"1/0", "48"}, {"long/(many-1)", "48"}};
        for (String[] one : due) {
            T.due("worth " + one[0], Told.of(town + "law worth " + one[0] + ";").piece(0, 3), Integer.parseInt(one[1]));
        }
        T.due("without", Told.of(town).piece(0, 3), 48);
        T.due("of those of some, with an ERROR", Told.of(town + "law worth 1/0;").part(0, 0), 10);
        T.due("of those of some, without", Told.of(town).part(0, 0), 10);
        T.due("of those of some, put to 9999", Told.of(town + "law worth 9999*long;").part(0, 0), 9999);
        T.due("of those of some, put to 0", Told.of(town + "law worth 0-long;").part(0, 0), 0);
    }

    // "Of a PIECE: LONG .. MANY .. WHO"; "minute: its first one"; of some: "LONG (theirs in it), MANY (PLACES with any of
    // them), WHO (how many they are), minute: the first one of theirs"
    private static void namesOfWorth() {
        String town = "place a;place b;link a b 9;owner x 1;owner y 1;owner z 1;noise a z 0 4 1;noise b z 0 3 1;claim x a 10 19;"
                + "claim y b 7 7;claim y a 30 31;claim z b 0 3;law worth ";
        // a: 5 to 47, b: 4 to 47; what isn't claimed is z's.
        String[] laws = {"long", "many", "who", "minute"};
        int[] whole = {43 + 44, 2, 3, 4};
        // Of x, of y, of x and y together.
        int[][] some = {{10, 1, 1, 10}, {3, 2, 1, 7}, {13, 2, 2, 7}};
        int[] rest = {74, 2, 1, 4};
        for (int i = 0; i < 4; i++) {
            OwnedSilence x = Told.of(town + laws[i] + ";");
            T.due(laws[i] + " of the piece", x.piece(0, 3), whole[i]);
            int xz = i == 0 ? 84 : i == 1 ? 2 : i == 2 ? 2 : 4;
            int yz = i == 0 ? 77 : i == 1 ? 2 : i == 2 ? 2 : 4;
            T.due(laws[i] + " part of x", x.part(0, 0),
                    2 * some[0][i] + (some[2][i] - some[1][i]) + (xz - rest[i]) + 2 * (whole[i] - yz));
            T.due(laws[i] + " part of y", x.part(0, 1),
                    2 * some[1][i] + (some[2][i] - some[0][i]) + (yz - rest[i]) + 2 * (whole[i] - xz));
            T.due(laws[i] + " part of z", x.part(0, 2),
                    2 * rest[i] + (xz - some[0][i]) + (yz - some[1][i]) + 2 * (whole[i] - some[2][i]));
        }
    }

    // "nobody: 0"; "0 of one who has nothing in it"
    private static void nobodyAndNothing() {
        OwnedSilence x = Told.of("place a;owner x 1;owner y 1;owner z 1;claim x a 0 0;claim y a 1 1;law worth 100;");
        T.due("the first one brings it", x.part(0, 0), 100);
        T.due("in half of the orders", x.part(0, 1), 100);
        T.due("nothing in it", x.part(0, 2), 0);
        T.due("no share", x.share(0, 2), 0);
        T.due("a share", x.share(0, 1), 1);
        OwnedSilence lone = Told.of("place a;owner x 1;owner y 1;claim y a 47 47;law worth 5-long;");
        T.due("one order", lone.part(0, 1), 4);
        T.due("the other one", lone.part(0, 0), 0);
    }

    // "theirs in it": what they have in another PIECE counts for that one alone
    private static void severalPieces() {
        String two = "place a;place b;place c;link b c 1;owner x 1;owner y 1;claim x a 0 0;claim x b 5 6;claim y b 7 9;claim y c 1 1;"
                + "law worth ";
        String[] laws = {"long", "many*(who=1)", "who", "minute*(long<9)"};
        // Of x at a; of x and of y at b and c.
        int[][] due = {{1, 2 * 2, 2 * 4}, {1, 1 - 2, 2 - 1}, {1, 1 + 1, 1 + 1}, {0, 5 + (1 - 1), 1 + (1 - 5)}};
        for (int i = 0; i < 4; i++) {
            OwnedSilence x = Told.of(two + laws[i] + ";");
            for (int again = 0; again < 2; again++) {
                T.due(laws[i] + " of x at a", x.part(0, 0), due[i][0]);
                T.due(laws[i] + " of x at b", x.part(1, 0), due[i][1]);
                T.due(laws[i] + " of y at b", x.part(1, 1), due[i][2]);
                T.due(laws[i] + " of y at a", x.part(0, 1), 0);
            }
        }
        OwnedSilence x = Told.of(two + "(long=1)*9+(long=4)*9;");
        T.due("x leaves a", x.leaves(0), 1);
        T.due("y leaves b and c", x.leaves(1), 2);
        T.due("x leaves a, again", x.leaves(0), 1);
        T.due("share of y at b and c", x.share(1, 1), 4);
        T.due("x leaves a, behind it", x.leaves(0), 1);
        T.due("share of x at a", x.share(0, 0), 1);
        T.due("y leaves b and c, behind it", x.leaves(1), 2);
        T.due("part of x at a", x.part(0, 0), 9);
        T.due("y leaves b and c, behind a part", x.leaves(1), 2);
    }

    // "the first of the sets of its OWNERS (bits ascending) for whom that is more than WORTH of the PIECE times their
    // MINUTES in it by those of all its OWNERS (as fractions)"; "0: none would"
    private static void moreAsFractions() {
        String town = "place a;owner x 1;owner y 1;claim x a 0 0;claim y a 1 2;law worth ";
        // Of 3 minutes x has 1; the piece is worth 10: 3 and a third.
        T.due("less by a third", Told.of(town + "(long=48)*10+(long=1)*3+(long=2)*6;").leaves(0), 0);
        T.due("more by two thirds", Told.of(town + "(long=48)*10+(long=1)*4;").leaves(0), 1);
        T.due("y: less by two thirds", Told.of(town + "(long=48)*10+(long=2)*6;").leaves(0), 0);
        T.due("y: more by a third", Told.of(town + "(long=48)*10+(long=2)*7;").leaves(0), 2);
        T.due("alike", Told.of(town + "(long=48)*9+(long=1)*3+(long=2)*6+(long=3)*9;").leaves(0), 0);
        T.due("both, alike", Told.of(town + "(long=48)*9+(long=3)*9;").leaves(0), 0);
        T.due("both, more", Told.of(town + "(long=48)*9+(long=3)*10;").leaves(0), 3);
        T.due("the first of several", Told.of(town + "(long=48)*9+(long<48)*10;").leaves(0), 1);
        T.due("the most there may be", Told.of(town + "(long<48)*9999;").leaves(0), 1);
        String four = "place a;owner w 1;owner x 1;owner y 1;owner z 1;claim w a 0 0;claim x a 1 1;claim y a 2 2;claim z a 3 3;";
        T.due("of four, the last", Told.of(four + "law worth (who=1)*(minute=3)*9;").leaves(0), 8);
        T.due("of four, all but the first", Told.of(four + "law worth (who=3)*(minute=1)*9;").leaves(0), 14);
        T.due("of four, all", Told.of(four + "law worth (who=4)*(long=4)*9;").leaves(0), 15);
        T.due("of four, three ahead of two", Told.of(four + "law worth (who=3)*9+(who=2)*(minute=1)*9;").leaves(0), 6);
        // z has nothing in the piece of a: the sets are those of its owners alone.
        String two = "place a;owner w 1;owner x 1;owner y 1;claim x a 0 0;claim y a 1 1;";
        T.due("without one who has nothing", Told.of(two + "law worth (who=1)*9;").leaves(0), 2);
    }

    public static void main(String[] args) {
        ownersAndWhats();
        rowsAndColumns();
        farOrNot();
        theFarthest();
        farByAny();
        lawNumbers();
        lawNames();
        values();
        errors();
        atLeastOne();
        minutesOfANoise();
        withAnError();
        placesAndMinutes();
        theFirstClaim();
        byTheNoiseAhead();
        trespass();
        asLongAsCanBe();
        touching();
        notByOthers();
        numbered();
        howManyPieces();
        noPlacesNoOwners();
        putToBounds();
        namesOfWorth();
        nobodyAndNothing();
        severalPieces();
        moreAsFractions();
        T.end();
    }
}
