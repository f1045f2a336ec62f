import java.util.NoSuchElementException;

/** The promises of the document, one after another: ordinary inputs, the edges it names, wrong inputs. */
public final class OwnedSilenceTest {
    private static final Told T = new Told();
    private static final long ALL_DAY = (1L << 48) - 1;
    /** A street of three places, a noise by x at a, claims of y at b and of x at c. */
    private static final String STREET = "place a;place b;place c;link a b 2;link b c 3;owner x 20;owner y 5;heir x y;"
            + "noise a x 10 19 4;claim y b 12 15;claim x c 0 47;";

    private static String places(int n) {
        StringBuilder s = new StringBuilder();
        for (int i = 0; i < n; i++) {
            s.append("place ").append((char) ('a' + i)).append(';');
        }
        return s.toString();
    }

    private static String times(String part, int n) {
        return part.repeat(n);
    }

    private static void newObject() {
        OwnedSilence x = new OwnedSilence();
        for (int what = 0; what < 16; what++) {
            T.due("1 count of a new object " + what, x.count(what), 0);
        }
        T.due("1 fault(0)", x.fault(0), 0);
        T.due("1 fault(1)", x.fault(1), -1);
        T.due("1 text(0)", x.text(0), 0);
        T.due("1 text(1)", x.text(1), -2);
    }

    private static void feed() {
        OwnedSilence x = new OwnedSilence();
        for (int i = 1; i <= 35; i++) {
            T.due("2 feed " + i, x.feed(-1, 0, 1, 2, 3), 20 * i);
        }
        T.due("2 feed beyond 700", x.feed(0, 0, 0, 0, 0), -1);
        T.due("2 text(701)", x.text(701), -2);
        T.due("2 text(700)", x.text(700), -1);
        T.due("2 a byte 255 is no token", x.fault(1), 0);
        T.due("2 feed again", x.feed(0x706c6163, 0x6520613b, 0x20202020, 0x0a0a0a0a, 0x20202020), 20);
        T.due("2 highest first", x.text(20), 1);
    }

    private static void text() {
        OwnedSilence x = Told.of(STREET);
        T.due("3 lines of blanks", Told.tell(new OwnedSilence(), " \n \n"), 0);
        T.due("3 lines", Told.tell(new OwnedSilence(), STREET), 11);
        T.due("3 no blank needed", Told.tell(new OwnedSilence(), "wall5;fine\n0009;seed 099999;"), 3);
        x.go(0);
        x.wall(0, true);
        x.note(0, 0, true);
        x.keep();
        Told.feed(x, "place q;");
        T.due("3 not so many", x.text(21), -2);
        T.due("3 below 0", x.text(-1), -2);
        T.due("3 the tape stays", x.feed(0, 0, 0, 0, 0), 40);
        T.due("3 the fault of before stays", x.fault(0), 0);
        T.due("3 a fault", x.text(9), 1);
        T.due("3 its places", x.count(0), 1);
        Told.tell(x, STREET);
        x.wall(0, true);
        x.note(0, 0, true);
        x.known(0);
        x.keep();
        T.due("3 with a fault", Told.tell(x, "place"), -1);
        T.due("3 the tape is empty then", x.text(1), -2);
        T.due("3 places stay", x.count(0), 3);
        T.due("3 walls stay", x.count(12), 1);
        T.due("3 notes stay", x.count(9), 1);
        T.due("3 known stays", x.count(10), 0);
        T.due("3 undo stays", x.count(11), 1);
        T.due("3 the image stays", x.back(), 0);
        x.go(5);
        x.wall(0, false);
        T.due("3 again", Told.tell(x, STREET), 11);
        T.due("3 minute 0", x.count(8), 0);
        T.due("3 no walls", x.count(12), 0);
        T.due("3 no notes", x.count(9), 0);
        x.note(0, 0, true);
        T.due("3 all known", x.count(10), 1);
        T.due("3 nothing to undo", x.undo(), -1);
        T.due("3 no image", x.back(), -1);
        T.due("3 another one's silence", x.count(15), 124);
        T.due("3 and pieces", x.pieces(), 1);
        Told.tell(x, "place a;place b;");
        T.due("3 not that of before", x.count(15), 96);
        T.due("3 nor its pieces", x.pieces(), 2);
        T.due("3 wall is 5 and fine 1 again", Told.tell(x, "wall 9;fine 9;"), 2);
        Told.tell(x, STREET);
        x.wall(0, true);
        T.due("3 wall 5", x.far(0, 1), 7);
    }

    private static void fault() {
        OwnedSilence x = new OwnedSilence();
        T.due("4 fault(2)", x.fault(2), -1);
        T.due("4 fault(-1)", x.fault(-1), -1);
        Told.tell(x, "  ;");
        T.due("4 kind", x.fault(0), 1);
        T.due("4 place", x.fault(1), 2);
        x.text(1);
        T.due("4 text -2 leaves it", x.fault(1), 2);
        x.text(0);
        T.due("4 none any more", x.fault(0), 0);
        T.due("4 no place any more", x.fault(1), -1);
        tokenFaults();
        muchFaults();
        againFaults();
        lawFaults();
    }

    private static void tokenFaults() {
        T.fault("", 0, -1);
        T.fault("place a;", 0, -1);
        T.fault("place a", 1, 7);
        T.fault("place a  \n", 1, 10);
        T.fault("place", 1, 5);
        T.fault("place ;", 1, 6);
        T.fault("place 1;", 1, 6);
        T.fault("place wall;", 1, 6);
        T.fault("place who;", 1, 6);
        T.fault("place or;", 1, 6);
        T.fault("place abcdef;", 0, -1);
        T.fault("place abcdefg;", 1, 6);
        T.fault("place aB;", 1, 7);
        T.fault("place\ta;", 1, 5);
        T.fault("place\ra;", 1, 5);
        T.fault("place a1;", 1, 7);
        T.fault("place a b;", 1, 8);
        T.fault("places a;", 1, 0);
        T.fault("abc;", 1, 0);
        T.fault("5;", 1, 0);
        T.fault("fade 1;", 1, 0);
        T.fault("owner x;", 1, 7);
        T.fault("owner x y;", 1, 8);
        T.fault("owner x -1;", 1, 8);
        T.fault("wall 1 1;", 1, 7);
        T.fault("wall 1a;", 1, 6);
        T.fault("wall 1" + (char) 233, 1, 6);
        T.fault("wall 1" + (char) 0, 1, 6);
        T.fault("law;", 1, 3);
        T.fault("law far 1;", 1, 4);
        T.fault("place a;owner x 1;claim a x 1 1;", 4, 24);
        T.fault("place a;owner x 1;right x a 1;", 1, 29);
        T.fault("place a;owner x 1;task x a 1 2 3;", 1, 31);
    }

    private static void muchFaults() {
        T.fault(places(6), 0, -1);
        T.fault(places(6) + "place a;", 2, 48);
        T.fault(places(6) + "place", 2, 48);
        T.fault("owner a 0;owner b 0;owner c 0;owner d 999;", 0, -1);
        T.fault("owner a 0;owner b 0;owner c 0;owner d 0;owner", 2, 40);
        String links = places(6) + "link a b 1;link a c 1;link a d 1;link a e 1;link a f 1;link b c 1;link b d 1;link b e 1;"
                + "link b f 9;";
        T.fault(links, 0, -1);
        T.fault(links + "link c d 1;", 2, links.length());
        String one = "place a;owner x 1;";
        T.fault(one + times("noise a x 0 0 1;", 8), 0, -1);
        T.fault(one + times("noise a x 0 0 1;", 9), 2, 18 + 8 * 16);
        T.fault(one + times("claim x a 0 0;", 8), 0, -1);
        T.fault(one + times("claim x a 0 0;", 9), 2, 18 + 8 * 14);
        T.fault(one + times("right x a 0 0;", 6), 0, -1);
        T.fault(one + times("right x a 0 0;", 7), 2, 18 + 6 * 14);
        T.fault(one + times("task x a 1 1;", 4), 0, -1);
        T.fault(one + times("task x a 1 1;", 5), 2, 18 + 4 * 13);
        T.fault("owner x 1000;", 2, 8);
        T.fault("owner x 99999999999999999999;", 2, 8);
        T.fault("owner x 00000000000000000001;", 0, -1);
        T.fault("place a;place b;link a b 10;", 2, 25);
        T.fault("place a;place b;link a b 0;", 2, 25);
        T.fault(one + "noise a x 47 47 20;", 0, -1);
        T.fault(one + "noise a x 48 48 20;", 2, 28);
        T.fault(one + "noise a x 7 48 20;", 2, 30);
        T.fault(one + "noise a x 7 6 20;", 2, 30);
        T.fault(one + "noise a x 7 7 21;", 2, 32);
        T.fault(one + "noise a x 7 7 0;", 2, 32);
        T.fault(one + "claim x a 5 4;", 2, 30);
        T.fault(one + "right x a 5 4;", 2, 30);
        T.fault(one + "task x a 12 20;", 0, -1);
        T.fault(one + "task x a 13 1;", 2, 27);
        T.fault(one + "task x a 0 1;", 2, 27);
        T.fault(one + "task x a 1 21;", 2, 29);
        T.fault(one + "dog a 20;", 0, -1);
        T.fault(one + "dog a 21;", 2, 24);
        T.fault("wall 10;", 2, 5);
        T.fault("wall 0;", 2, 5);
        T.fault("fine 10;", 2, 5);
        T.fault("seed 99999;", 0, -1);
        T.fault("seed 100000;", 2, 5);
    }

    private static void againFaults() {
        T.fault("place a;owner a 1;", 0, -1);
        T.fault("place a;place a;", 3, 14);
        T.fault("owner a 1;owner a 1;", 3, 16);
        T.fault("place a;place b;link a b 1;link a b 1;", 3, 34);
        T.fault("place a;place b;link a b 1;link b a 1;", 3, 34);
        T.fault("owner x 1;owner y 1;heir x y;heir y x;", 0, -1);
        T.fault("owner x 1;owner y 1;heir x y;heir x x;", 3, 34);
        T.fault("place a;dog a 1;dog a 99;", 3, 20);
        T.fault("wall 1;wall 0;", 3, 7);
        T.fault("fine 1;fine", 3, 7);
        T.fault("seed 0;seed 0;", 3, 7);
        T.fault("law fade 1;law worth 1;", 0, -1);
        T.fault("law fade 1;law fade", 3, 15);
        T.fault("place a;link b a 1;", 4, 13);
        T.fault("place a;link a b 1;", 4, 15);
        T.fault("owner x 1;link x x 1;", 4, 15);
        T.fault("owner x 1;heir y x;", 4, 15);
        T.fault("owner x 1;heir x y;", 4, 17);
        T.fault("place a;noise a x 1 1 1;", 4, 16);
        T.fault("noise a x 1 1 1;place a;", 4, 6);
        T.fault("dog a 1;", 4, 4);
        T.fault("place a;link a a 1;", 5, 15);
        T.fault("owner x 1;heir x x;", 5, 17);
    }

    private static void lawFaults() {
        T.fault("law fade 9999;", 0, -1);
        T.fault("law fade 10000;", 2, 9);
        T.fault("law fade ;", 1, 9);
        T.fault("law fade 1", 1, 10);
        T.fault("law fade 1 2;", 1, 11);
        T.fault("law fade 1+;", 1, 11);
        T.fault("law fade +1;", 1, 9);
        T.fault("law fade 1<2<3;", 1, 12);
        for (String sign : new String[] {"<", "<=", "=", "<>", ">=", ">"}) {
            T.fault("law fade 1" + sign + "2;", 0, -1);
            T.fault("law fade 1+1" + sign + "2*2" + sign + "3;", 1, 15 + sign.length());
        }
        T.fault("law fade (1<2)<3;", 0, -1);
        T.fault("law fade 1< 2 and 2>=1 or not not 3<>4;", 0, -1);
        T.fault("law fade 1< =2;", 1, 12);
        T.fault("law fade 1=<2;", 1, 11);
        T.fault("law fade 1><2;", 1, 11);
        T.fault("law fade 1+not 2;", 1, 11);
        T.fault("law fade 1=not 2;", 1, 11);
        T.fault("law fade 1 not 2;", 1, 11);
        T.fault("law fade 1 and not 2;", 0, -1);
        T.fault("law fade (not 2)+1;", 0, -1);
        T.fault("law fade abc;", 1, 9);
        T.fault("law fade fade;", 1, 9);
        T.fault("law fade (1;", 1, 11);
        T.fault("law fade 1);", 1, 10);
        T.fault("law fade ();", 1, 10);
        T.fault("law fade 1(;", 1, 10);
        T.fault("law fade " + times("(", 8) + "1" + times(")", 8) + ";", 0, -1);
        T.fault("law fade " + times("(", 9) + "1" + times(")", 9) + ";", 2, 17);
        T.fault("law fade (1)+" + times("(", 8) + "1" + times(")", 8) + "+(1);", 0, -1);
        T.fault("law fade 1" + times("+1", 31) + ";", 0, -1);
        T.fault("law fade 1" + times("+1", 31) + "+1;", 2, 9 + 64);
        T.fault("law fade 1" + times("+1", 31) + ";law worth 1;", 0, -1);
        T.fault("law fade 1" + times("+1", 31) + ";law worth 1+1;", 2, 9 + 63 + 1 + 11);
        T.fault("law fade " + times("not ", 63) + "1;", 0, -1);
        T.fault("law fade " + times("not ", 64) + "1;", 2, 9 + 256);
        T.fault("law fade " + times("not ", 64) + "+;", 1, 9 + 256);
        T.fault("law fade ((((1" + times("+(1)", 31) + "))));", 0, -1);
    }

    private static void named() {
        OwnedSilence x = Told.of("place a;place abcdef;owner abcdef 1;owner z 2;");
        T.due("5 place a", x.named(0, 1 << 25), 0);
        T.due("5 place abcdef", x.named(0, Told.letters("abcdef")), 1);
        T.due("5 owner abcdef", x.named(1, Told.letters("abcdef")), 0);
        T.due("5 owner z", x.named(1, 26 << 25), 1);
        T.due("5 no place z", x.named(0, 26 << 25), -1);
        T.due("5 a in low bits", x.named(0, 1), -1);
        T.due("5 nothing", x.named(0, 0), -1);
        T.due("5 no such what", x.named(2, 1 << 25), -1);
    }

    private static int thrown(OwnedSilence x, int owner, int what) {
        try {
            x.owner(owner, what);
            return 0;
        } catch (IndexOutOfBoundsException e) {
            return 1;
        } catch (NoSuchElementException e) {
            return 2;
        }
    }

    private static void owner() {
        OwnedSilence x = Told.of(STREET + "noise c y 0 0 1;right x b 15 15;");
        T.due("6 coin", x.owner(1, 0), 5);
        T.due("6 heir", x.owner(0, 1), 1);
        T.due("6 no heir", x.owner(1, 1), -1);
        // x: a and b behind 19, c but for minute 0.
        T.due("6 minutes", x.owner(0, 2), 28 + 28 + 47);
        T.due("6 of y", x.owner(1, 2), 0);
        T.due("6 made, but for a right", x.owner(0, 3), 3);
        T.due("6 suffered", x.owner(1, 4), 3);
        T.due("6 made by y", x.owner(1, 3), 1);
        T.due("6 suffered by x", x.owner(0, 4), 1);
        T.due("6 no such what", thrown(x, 0, 5), 2);
        T.due("6 no such what below", thrown(x, 0, -1), 2);
        T.due("6 no such owner", thrown(x, 2, 0), 1);
        T.due("6 no such owner below", thrown(x, -1, 0), 1);
        T.due("6 neither", thrown(x, 2, 9), 1);
        T.due("6 none of a new object", thrown(new OwnedSilence(), 0, 0), 1);
    }

    private static void rows() {
        OwnedSilence x = Told.of(STREET);
        int[] noise = {0, 0, 10, 19, 4, 0};
        int[] claim = {1, 1, 12, 15};
        int[] link = {1, 2, 3, 0};
        for (int what = 0; what < 6; what++) {
            T.due("7 noise " + what, x.noise(0, what), noise[what]);
        }
        for (int what = 0; what < 4; what++) {
            T.due("8 claim " + what, x.claim(0, what), claim[what]);
            T.due("9 link " + what, x.link(1, what), link[what]);
        }
        x.make(2, 1, 3, 4, 20);
        T.due("7 made", x.noise(1, 4), 20);
        x.stop(1);
        T.due("7 stopped", x.noise(1, 5), 1);
        T.due("7 no such", x.noise(2, 0), -1);
        T.due("7 below", x.noise(-1, 0), -1);
        T.due("7 no such what", x.noise(0, 6), -1);
        T.due("7 what below", x.noise(0, -1), -1);
        x.sell(0, 0, 0);
        T.due("8 sold", x.claim(0, 0), 0);
        T.due("8 no such", x.claim(2, 0), -1);
        T.due("8 no such what", x.claim(0, 4), -1);
        x.wall(1, true);
        T.due("9 walled", x.link(1, 3), 1);
        T.due("9 LENGTH stays", x.link(1, 2), 3);
        T.due("9 no such", x.link(2, 0), -1);
        T.due("9 no such what", x.link(0, 4), -1);
    }

    private static void far() {
        OwnedSilence x = Told.of("place a;place b;place c;place d;link a b 9;link b c 2;link a c 3;wall 7;");
        T.due("10 round about", x.far(0, 1), 5);
        T.due("10 itself", x.far(3, 3), 0);
        T.due("10 no way", x.far(0, 3), -2);
        T.due("10 no such", x.far(0, 4), -1);
        T.due("10 below", x.far(-1, 0), -1);
        x.wall(1, true);
        T.due("10 straight then", x.far(0, 1), 9);
        x.wall(0, true);
        T.due("10 both walled", x.far(0, 1), 12);
    }

    private static long fade(String e, int loud, int far, int minute) {
        return Told.of("law fade " + e + ";").law(0, loud, far, minute);
    }

    private static void law() {
        T.due("11 names", fade("loud*100+far*10+minute+long+many+who", 1, 2, 3), 123);
        T.due("11 worth", Told.of("law worth long*100+many*10+who+minute+loud+far;").law(1, 1, 2, 3), 123);
        T.due("11 left to right", fade("10-3-2", 0, 0, 0), 5);
        T.due("11 by left to right", fade("100/5*2", 0, 0, 0), 40);
        T.due("11 times first", fade("2+3*4", 0, 0, 0), 14);
        T.due("11 cut towards 0", fade("(0-7)/2", 0, 0, 0), -3);
        T.due("11 compared", fade("1+1=2", 0, 0, 0), 1);
        T.due("11 not of a comparison", fade("not 1=2", 0, 0, 0), 1);
        T.due("11 not not", fade("not not 5", 0, 0, 0), 1);
        T.due("11 and before or", fade("1 or 0 and 0", 0, 0, 0), 1);
        T.due("11 and of any", fade("5 and 7", 0, 0, 0), 1);
        T.due("11 alike", fade("(1<1)+2*(1<=1)+4*(1=1)+8*(1<>1)+16*(1>=1)+32*(1>1)", 0, 0, 0), 2 + 4 + 16);
        T.due("11 less", fade("(1<2)+2*(1<=2)+4*(1=2)+8*(1<>2)+16*(1>=2)+32*(1>2)", 0, 0, 0), 1 + 2 + 8);
        T.due("11 more", fade("(2<1)+2*(2<=1)+4*(2=1)+8*(2<>1)+16*(2>=1)+32*(2>1)", 0, 0, 0), 8 + 16 + 32);
        T.due("11 or", fade("(0 or 0)+2*(0 or 1)+4*(2 or 0)+8*(0 or 0)", 0, 0, 0), 2 + 4);
        T.due("11 and", fade("(0 and 0)+2*(0 and 1)+4*(1 and 0)+8*(3 and 1)", 0, 0, 0), 8);
        T.due("11 not", fade("(not 0)+2*(not 1)+4*(not not 0)", 0, 0, 0), 1);
        T.due("11 not before and", fade("not 0 and 0", 0, 0, 0), 0);
        T.due("11 and not", fade("1 and not 1 or 1", 0, 0, 0), 1);
        T.due("11 minus, then plus", fade("10-3+2", 0, 0, 0), 9);
        T.due("11 plus, then minus", fade("10+3-2+1", 0, 0, 0), 12);
        T.due("11 times, then by", fade("7*3/2", 0, 0, 0), 10);
        T.due("11 by, then by", fade("100/5/2", 0, 0, 0), 10);
        T.due("11 below 0 times below 0", fade("(0-3)*(0-4)", 0, 0, 0), 12);
        T.due("11 far below 0", fade("(0-9999)*9999*9999*9999", 0, 0, 0), Long.MIN_VALUE);
        T.due("11 times far below 0", fade("9999*9999*9999*(0-9999)", 0, 0, 0), Long.MIN_VALUE);
        T.due("11 2 to the 64 is no 0", fade("8192*8192*64*(8192*8192*64)", 0, 0, 0), Long.MIN_VALUE);
        T.due("11 63 times not", fade(times("not (", 8) + times("not ", 55) + "1" + times(")", 8), 0, 0, 0), 0);
        T.due("11 62 times not", fade(times("not (", 8) + times("not ", 54) + "1" + times(")", 8), 0, 0, 0), 1);
        T.due("11 by 0", fade("1/far", 1, 0, 0), Long.MIN_VALUE);
        T.due("11 both sides", fade("1 or 1/0", 0, 0, 0), Long.MIN_VALUE);
        T.due("11 the limit", fade("9999+1*1", 0, 0, 0), 10000);
        T.due("11 at 10 to the 12", fade("(9999+1)*(9999+1)*(9999+1)", 0, 0, 0), 1000000000000L);
        T.due("11 above it", fade("(9999+1)*(9999+1)*(9999+1)+1", 0, 0, 0), Long.MIN_VALUE);
        T.due("11 at it below 0", fade("0-(9999+1)*(9999+1)*(9999+1)", 0, 0, 0), -1000000000000L);
        T.due("11 below it", fade("0-(9999+1)*(9999+1)*(9999+1)-1", 0, 0, 0), Long.MIN_VALUE);
        T.due("11 no wrap", fade("loud*loud*loud*loud*loud*0", 9999, 0, 0), Long.MIN_VALUE);
        T.due("11 times 0", fade("(9999+1)*(9999+1)*(9999+1)*0", 0, 0, 0), 0);
        OwnedSilence x = Told.of("law fade loud;");
        T.due("11 most", x.law(0, 9999, 0, 0), 9999);
        T.due("11 too much", x.law(0, 10000, 0, 0), Long.MIN_VALUE);
        T.due("11 too much c", x.law(0, 0, 0, 10000), Long.MIN_VALUE);
        T.due("11 below", x.law(0, 0, -1, 0), Long.MIN_VALUE);
        T.due("11 not told", x.law(1, 0, 0, 0), Long.MIN_VALUE);
        T.due("11 no such", x.law(2, 0, 0, 0), Long.MIN_VALUE);
        T.due("11 no such below", x.law(-1, 0, 0, 0), Long.MIN_VALUE);
    }

    private static void silence() {
        OwnedSilence x = Told.of(STREET + "noise b y 15 20 1;noise a y 30 30 1;place d;");
        T.due("12 first", x.heard(1, 16), 0);
        T.due("12 second", x.heard(1, 20), 1);
        T.due("12 silent", x.heard(1, 21), -2);
        T.due("12 no way", x.heard(3, 12), -2);
        T.due("12 no place", x.heard(4, 0), -1);
        T.due("12 no minute", x.heard(0, 48), -1);
        T.due("12 below", x.heard(0, -1), -1);
        T.due("13 a", x.hush(0), ALL_DAY & ~(0x3ffL << 10) & ~(1L << 30));
        T.due("13 b", x.hush(1), ALL_DAY & ~(0x7ffL << 10));
        T.due("13 d", x.hush(3), ALL_DAY);
        T.due("13 no such", x.hush(4), -1);
        T.due("13 below", x.hush(-1), -1);
        T.due("14 ahead of all", x.whose(0, 9), -2);
        T.due("14 behind x", x.whose(0, 29), 0);
        T.due("14 behind y", x.whose(0, 31), 1);
        T.due("14 by the first one heard then", x.whose(1, 47), 1);
        T.due("14 not silent", x.whose(0, 10), -3);
        T.due("14 claimed", x.whose(2, 0), 0);
        T.due("14 no such", x.whose(4, 0), -1);
        T.due("14 no minute", x.whose(0, 48), -1);
        OwnedSilence two = Told.of("place a;owner x 1;owner y 1;noise a y 5 5 1;noise a x 5 5 9;claim x a 1 2;claim y a 2 3;");
        T.due("14 of several the first one", two.whose(0, 6), 1);
        T.due("14 the first claim", two.whose(0, 2), 0);
        T.due("14 the second claim", two.whose(0, 3), 1);
        OwnedSilence odd = Told.of("place a;owner x 1;noise a x 0 47 5;law fade (minute/2*2=minute)*loud;");
        T.due("12 by the minute", odd.heard(0, 3), -2);
        T.due("13 by the minute", odd.hush(0), 0xaaaaaaaaaaaaL);
        OwnedSilence wrong = Told.of("place a;place b;link a b 4;owner x 1;noise a x 7 7 5;law fade 9/(far-4);");
        T.due("12 with an ERROR loud less far", wrong.heard(1, 7), 0);
        T.due("12 below 1", wrong.heard(0, 7), -2);
        OwnedSilence level = Told.of("place a;place b;link a b 4;owner x 1;noise a x 7 7 4;");
        T.due("12 nothing remains", level.heard(1, 7), -2);
        OwnedSilence lone = Told.of("place a;place b;owner x 1;noise a x 7 7 4;law fade 1;");
        T.due("12 no way, whatever the law", lone.heard(1, 7), -2);
    }

    private static void spansAndPieces() {
        OwnedSilence x = Told.of("place a;place b;place c;link a b 1;link b c 1;owner x 9;owner y 9;noise b x 10 19 1;"
                + "noise a y 0 9 1;noise a y 20 47 1;claim y c 0 3;");
        // a 10-19; b 0-9, 20-47; c 0-47.
        T.due("15 spans", x.spans(), 4);
        int[][] spans = {{0, 10, 19, 0}, {1, 0, 9, 1}, {1, 20, 47, 1}, {2, 0, 47, 1}};
        for (int k = 0; k < 4; k++) {
            for (int what = 0; what < 4; what++) {
                T.due("16 span " + k + " " + what, x.span(k, what), spans[k][what]);
            }
        }
        T.due("16 not so many", x.span(4, 0), -2);
        T.due("16 below", x.span(-1, 0), -1);
        T.due("16 no such what", x.span(0, 4), -1);
        T.due("16 what below", x.span(0, -1), -1);
        T.due("16 no such what of one beyond", x.span(9, 4), -1);
        T.due("17 pieces", x.pieces(), 2);
        int[][] pieces = {{10, 1, 2, 10, 10, 1}, {86, 2, 3, 86, 0, 3}};
        for (int k = 0; k < 2; k++) {
            for (int what = 0; what < 6; what++) {
                T.due("18 piece " + k + " " + what, x.piece(k, what), pieces[k][what]);
            }
        }
        T.due("18 not so many", x.piece(2, 0), -2);
        T.due("18 below", x.piece(-1, 0), -1);
        T.due("18 no such what", x.piece(0, 6), -1);
        T.due("18 what below", x.piece(0, -1), -1);
        T.due("18 no such what of one beyond", x.piece(9, 6), -1);
        T.due("19 of the first one", x.share(0, 1), 10);
        T.due("19 x", x.share(1, 0), 28);
        T.due("19 y", x.share(1, 1), 4);
        T.due("19 not so many", x.share(2, 0), -2);
        T.due("19 no owner", x.share(0, 2), -1);
        T.due("19 below", x.share(-1, 0), -1);
        x.wall(1, true);
        T.due("17 a wall between", x.pieces(), 4);
        T.due("17 none", new OwnedSilence().pieces(), 0);
        OwnedSilence most = Told.of("place a;place b;place c;place d;place e;place f;owner x 1;noise a x 0 47 1;"
                + "law fade minute/2*2=minute;link a b 1;link a c 1;link a d 1;link a e 1;link a f 1;");
        T.due("15 most", most.spans(), 144);
        T.due("17 most", most.pieces(), 24);
        for (int link = 0; link < 5; link++) {
            most.wall(link, true);
        }
        T.due("17 most of all", most.pieces(), 144);
        T.due("18 the last of all", most.piece(143, 4), 47);
    }

    private static void worth() {
        String three = "place a;place b;owner x 9;owner y 9;owner z 9;link a b 1;claim x a 0 1;claim y a 2 4;claim z b 1 1;";
        OwnedSilence x = Told.of(three + "law worth long*100+many*10+who+minute*1000;");
        // LONG 96, MANY 2, WHO 3, minute 0: 9623.
        T.due("18 worth", x.piece(0, 3), 9623);
        // Alone: x 211, y 2311, z 1111; x and y 512, x and z 322, y and z 1422 (from minute 1), all 623.
        T.due("20 x", x.part(0, 0), 2 * 211 + (512 - 2311) + (322 - 1111) + 2 * (623 - 1422));
        T.due("20 y", x.part(0, 1), 2 * 2311 + (512 - 211) + (1422 - 1111) + 2 * (623 - 322));
        T.due("20 z", x.part(0, 2), 2 * 1111 + (322 - 211) + (1422 - 2311) + 2 * (623 - 512));
        T.due("20 in sum", x.part(0, 0) + x.part(0, 1) + x.part(0, 2), 6 * 623);
        // By minutes: x 2, y 3, z 1 of 6: 9623 times 3 by 6 is above 2311.
        T.due("21 nobody", x.leaves(0), 0);
        T.due("18 put to 9999", Told.of(three + "law worth long*long*long;").piece(0, 3), 9999);
        T.due("18 put to 0", Told.of(three + "law worth 1-long;").piece(0, 3), 0);
        T.due("18 with an ERROR", Told.of(three + "law worth 1/0;").piece(0, 3), 96);
        OwnedSilence less = Told.of(three + "law worth 100-long;");
        // The piece 4, x alone 98.
        T.due("21 the first alone", less.leaves(0), 1);
        OwnedSilence pair = Told.of(three + "law worth (who=2)*(long=3)*50;");
        // Only x and z have three minutes together: 50, of a piece that is worth 0.
        T.due("21 two", pair.leaves(0), 5);
        OwnedSilence even = Told.of("place a;owner x 9;owner y 9;claim x a 0 23;claim y a 24 47;law worth long*2;");
        T.due("21 as much is not more", even.leaves(0), 0);
        T.due("20 half", even.part(0, 0), 96);
        OwnedSilence third = Told.of("place a;owner x 9;owner y 9;claim x a 0 15;claim y a 16 47;law worth 10/(3-who)-who*4+3;");
        // The piece 10-8+3=5; x alone 5-4+3=4 of 5 times 16 by 48.
        T.due("21 as fractions", third.leaves(0), 1);
        fourOwners();
        OwnedSilence none = Told.of("place a;owner x 9;");
        T.due("20 nothing in it", none.part(0, 0), 0);
        T.due("21 no owners", none.leaves(0), 0);
        T.due("20 not so many", none.part(1, 0), -2);
        T.due("20 no owner", none.part(0, 1), -1);
        T.due("20 below", none.part(-1, 0), -1);
        T.due("21 not so many", none.leaves(1), -2);
        T.due("21 below", none.leaves(-1), -1);
    }

    /** Of two places; what is more depends on how many have come. */
    private static void fourOwners() {
        OwnedSilence x = Told.of("place a;place b;link a b 1;owner w 0;owner x 0;owner y 0;owner z 0;claim w a 0 0;"
                + "claim x a 1 1;claim x b 1 1;claim y b 2 2;claim z b 3 3;law worth who*who*who+many*100+loud+far;");
        // Worth by how many: w alone 101, x alone 201, y alone 101; with w or x and one at b 200 more.
        int[] set = new int[16];
        for (int bits = 1; bits < 16; bits++) {
            int who = Integer.bitCount(bits);
            int many = ((bits & 3) != 0 ? 1 : 0) + ((bits & 14) != 0 ? 1 : 0);
            set[bits] = who * who * who + many * 100;
        }
        int[] orders = {6, 2, 2, 6};
        for (int owner = 0; owner < 4; owner++) {
            int sum = 0;
            for (int bits = 0; bits < 16; bits++) {
                if ((bits >> owner & 1) == 0) {
                    sum += orders[Integer.bitCount(bits)] * (set[bits | 1 << owner] - set[bits]);
                }
            }
            T.due("20 of four " + owner, x.part(0, owner), sum);
        }
        // The piece 264, of 5 minutes: w alone has 101 and would have 52.
        T.due("21 of four", x.leaves(0), 1);
    }

    private static void changes() {
        OwnedSilence x = Told.of(STREET);
        T.due("22 no place", x.make(3, 0, 0, 0, 1), -1);
        T.due("22 no owner", x.make(0, 2, 0, 0, 1), -1);
        T.due("22 from below", x.make(0, 0, -1, 0, 1), -1);
        T.due("22 to beyond", x.make(0, 0, 0, 48, 1), -1);
        T.due("22 to below from", x.make(0, 0, 5, 4, 1), -1);
        T.due("22 loud 0", x.make(0, 0, 0, 0, 0), -1);
        T.due("22 loud 21", x.make(0, 0, 0, 0, 21), -1);
        for (int i = 1; i < 12; i++) {
            T.due("22 made " + i, x.make(2, 1, 47, 47, 20), i);
        }
        x.stop(5);
        T.due("22 twelve are there", x.make(2, 1, 47, 47, 20), -1);
        T.due("22 heard", x.heard(0, 47), 1);
        T.due("22 all made", x.count(3), 12);
        T.due("23 stop", x.stop(1), true);
        T.due("23 the next one is heard", x.heard(0, 47), 2);
        T.due("23 it is", x.stop(1), false);
        T.due("23 no such", x.stop(12), false);
        T.due("23 below", x.stop(-1), false);
        T.due("24 none yet", x.wall(0, false), false);
        T.due("24 wall", x.wall(0, true), true);
        T.due("24 it is so", x.wall(0, true), false);
        T.due("24 none again", x.wall(0, false), true);
        T.due("24 no such", x.wall(2, true), false);
        T.due("24 below", x.wall(-1, true), false);
        OwnedSilence rich = Told.of("place a;owner x 0;owner y 999;claim x a 0 0;");
        T.due("25 999", rich.sell(0, 1, 999), true);
        rich.sell(0, 0, 999);
        rich.sell(0, 1, 0);
        T.due("25 more coin than 999 may be had", rich.count(14), 999);
        T.due("25 theirs", x.sell(0, 1, 0), false);
        T.due("25 too dear", x.sell(0, 0, 21), false);
        T.due("25 sell", x.sell(0, 0, 20), true);
        T.due("25 paid", x.owner(0, 0), 0);
        T.due("25 had", x.owner(1, 0), 25);
        T.due("25 whose then", x.whose(1, 12), -3);
        T.due("25 no such claim", x.sell(2, 0, 0), false);
        T.due("25 no such owner", x.sell(0, 2, 0), false);
        T.due("25 below 0", x.sell(0, 1, -1), false);
        T.due("25 above 999", x.sell(0, 1, 1000), false);
    }

    private static void go() {
        OwnedSilence one = Told.of(STREET);
        one.go(13);
        T.due("26 a fine of 1 if none is told", one.owner(0, 0), 19);
        OwnedSilence x = Told.of(STREET + "fine 9;");
        T.due("26 none", x.go(0), 0);
        T.due("26 below", x.go(-1), -1);
        T.due("26 beyond", x.go(49), -1);
        T.due("26 to 12", x.go(12), 12);
        T.due("26 nothing paid yet", x.owner(0, 0), 20);
        x.go(1);
        T.due("26 paid", x.owner(0, 0), 11);
        T.due("26 had", x.owner(1, 0), 14);
        x.go(2);
        T.due("26 as far as coin goes", x.owner(0, 0), 0);
        T.due("26 all of it", x.owner(1, 0), 25);
        T.due("26 not so many left", x.go(34), -1);
        T.due("26 none went by", x.count(8), 15);
        T.due("26 the end", x.go(33), 48);
        T.due("26 it is over", x.go(1), -1);
        T.due("26 none of it", x.go(0), 48);
        // Both are fined each minute: by places first, then by noises.
        OwnedSilence both = Told.of("place a;place b;owner x 1;owner y 0;noise b y 0 0 1;noise a x 0 0 1;claim y a 0 0;"
                + "claim x b 0 0;fine 1;");
        both.go(1);
        T.due("26 by places", both.owner(0, 0), 1);
        OwnedSilence other = Told.of("place a;place b;owner x 0;owner y 1;noise b y 0 0 1;noise a x 0 0 1;claim y a 0 0;"
                + "claim x b 0 0;fine 1;");
        other.go(1);
        T.due("26 x had nothing at a", other.owner(0, 0), 1);
        OwnedSilence noises = Told.of("place a;owner x 1;owner y 0;owner z 0;noise a x 0 0 1;noise a x 0 0 1;claim z a 0 0;"
                + "fine 0;");
        noises.go(48);
        T.due("26 no fine", noises.owner(0, 0), 1);
    }

    private static void plan() {
        String town = "place a;place b;link a b 4;owner x 9;owner y 9;";
        OwnedSilence x = Told.of(town + "claim y b 0 9;right x b 0 3;task x b 5 2;task x a 2 9;");
        T.due("27 end", x.plan(), 14);
        T.due("28 which", x.planned(1, 0), 1);
        T.due("28 when", x.planned(1, 1), 0);
        T.due("28 not so many", x.planned(2, 0), -2);
        T.due("28 below", x.planned(-1, 0), -1);
        T.due("28 no such what", x.planned(0, 2), -1);
        T.due("27 no tasks", Told.of(town).plan(), -1);
        T.due("28 no tasks", Told.of(town).planned(0, 0), -2);
        OwnedSilence never = Told.of(town + "claim y b 0 47;task x b 1 1;");
        T.due("27 never", never.plan(), -2);
        T.due("28 never", never.planned(0, 0), -2);
        OwnedSilence late = Told.of(town + "claim y b 0 35;task x b 12 1;");
        T.due("27 to the end", late.plan(), 47);
        T.due("28 to the end", late.planned(0, 1), 36);
        T.due("27 not beyond it", Told.of(town + "claim y b 0 36;task x b 12 1;").plan(), -2);
        // Task 1 first: 0 to 4, then 5 to 9; task 0 first: 0 to 4, then 6 to 10.
        OwnedSilence order = Told.of(town + "claim y b 5 5;task x a 5 1;task x b 5 1;");
        T.due("27 the better order", order.plan(), 9);
        T.due("28 the second first", order.planned(0, 0), 1);
        T.due("28 then the first", order.planned(1, 1), 5);
        OwnedSilence two = Told.of(town + "task x a 3 1;task y a 4 1;");
        T.due("27 owners at once", two.plan(), 3);
        T.due("28 the first of several", two.planned(0, 0), 0);
        OwnedSilence wall = Told.of(town + "claim y b 0 47;task x a 1 5;");
        T.due("27 heard beside", wall.plan(), -2);
        wall.wall(0, true);
        T.due("27 a wall helps", wall.plan(), 0);
        wall.wall(0, false);
        wall.sell(0, 0, 0);
        T.due("27 so does the claim", wall.plan(), 0);
        T.due("28 at once", wall.planned(0, 0), 0);
        T.due("28 from 0", wall.planned(0, 1), 0);
        // Four of x, which can't be at once; minute 9 is shut at b.
        OwnedSilence four = Told.of(town + "claim y b 9 9;task x a 3 1;task x a 4 1;task x b 2 1;task x b 5 1;");
        // 0 to 2, 3 to 7 at b, 8 to 11 at a, 12 to 13: no order ahead of it goes without a gap.
        T.due("27 four", four.plan(), 13);
        T.due("28 four, first", four.planned(0, 0), 0);
        T.due("28 four, second", four.planned(1, 0), 3);
        T.due("28 four, third", four.planned(2, 0), 1);
        T.due("28 four, last", four.planned(3, 0), 2);
        T.due("28 four, last at", four.planned(3, 1), 12);
    }

    private static void walls() {
        OwnedSilence x = Told.of(STREET);
        T.due("29 one", x.walls(0, 1), 1);
        T.due("29 at itself", x.walls(0, 0), -2);
        T.due("29 none needed", x.walls(0, 2), 0);
        T.due("29 no noise", x.walls(1, 0), -1);
        T.due("29 no place", x.walls(0, 3), -1);
        T.due("29 below", x.walls(-1, 0), -1);
        x.wall(0, true);
        T.due("29 there already", x.walls(0, 1), 0);
        x.stop(0);
        T.due("29 stopped", x.walls(0, 0), 0);
        String ring = "place a;place b;place c;place d;link a b 1;link b d 1;link a c 1;link c d 1;owner x 1;noise a x 0 9 ";
        T.due("29 the least bits", Told.of(ring + "7;").walls(0, 3), 1 + 4);
        T.due("29 none are enough", Told.of(ring + "13;").walls(0, 3), -2);
        T.due("29 all", Told.of(ring + "12;").walls(0, 3), 15);
        OwnedSilence part = Told.of(ring + "7;");
        part.wall(1, true);
        T.due("29 as well", part.walls(0, 3), 4);
        OwnedSilence once = Told.of("place a;place b;link a b 1;owner x 1;noise a x 0 9 9;");
        once.wall(0, true);
        T.due("29 no second wall on a link", once.walls(0, 1), -2);
        T.due("29 no way", Told.of("place a;place b;owner x 1;noise a x 0 9 9;").walls(0, 1), 0);
        String all = places(6) + "link a b 1;link a c 1;link a d 1;link a e 1;link b f 1;link c f 1;link d f 1;link e f 1;"
                + "link a f 9;owner x 1;noise a x 0 0 1;wall 9;law fade far<18;";
        T.due("29 all nine", Told.of(all).walls(0, 5), 511);
        T.due("29 by the minute", Told.of(ring + "1;law fade minute-far-2;").walls(0, 3), 5);
    }

    private static void bark() {
        OwnedSilence x = Told.of("place a;place b;place c;place d;link a b 4;link b c 4;dog a 4;dog b 4;dog c 3;");
        T.due("30 a, b, a and so on", x.bark(1, 0), -2);
        T.due("30 the period", x.bark(1, 1), 2);
        T.due("30 the most", x.bark(1, 2), 1);
        T.due("30 c, b, a, b", x.bark(4, 1), 2);
        T.due("30 both at once end", x.bark(3, 0), 1);
        T.due("30 both at once", x.bark(3, 1), 0);
        T.due("30 most both", x.bark(3, 2), 2);
        T.due("30 all", x.bark(7, 2), 3);
        T.due("30 none", x.bark(0, 0), 0);
        T.due("30 none, period", x.bark(0, 1), 0);
        T.due("30 none, most", x.bark(0, 2), 0);
        T.due("30 no dog", x.bark(8, 0), -1);
        T.due("30 no place", x.bark(16, 0), -1);
        T.due("30 below", x.bark(-1, 0), -1);
        T.due("30 all bits", x.bark(Integer.MIN_VALUE, 0), -1);
        T.due("30 no such what", x.bark(0, 3), -1);
        T.due("30 what below", x.bark(0, -1), -1);
        x.wall(0, true);
        T.due("30 walls", x.bark(1, 0), 1);
        OwnedSilence ring = Told.of("place a;place b;place c;link a b 1;link b c 1;link c a 1;dog a 1;dog b 1;dog c 1;");
        T.due("30 one, two, one", ring.bark(1, 1), 2);
        T.due("30 two at most", ring.bark(1, 2), 2);
    }

    private static void notes() {
        OwnedSilence x = Told.of(STREET);
        T.due("31 note", x.note(0, 5, false), 0);
        T.due("31 no place", x.note(3, 5, false), -1);
        T.due("31 no minute", x.note(0, 48, false), -1);
        T.due("31 below", x.note(0, -1, false), -1);
        T.due("32 strike", x.strike(0), 1);
        T.due("32 no such", x.strike(2), -1);
        T.due("32 below", x.strike(-1), -1);
        T.due("32 of a strike", x.strike(1), 2);
        T.due("33 known by one", x.known(1), true);
        T.due("33 by so many", x.count(10), 1);
        T.due("33 too many", x.known(4), false);
        T.due("33 stays", x.count(10), 1);
        T.due("33 below", x.known(-2), false);
        T.due("33 none", x.known(0), true);
        T.due("33 all there are", x.known(3), true);
        x.note(0, 6, false);
        T.due("33 not those to come", x.count(10), 3);
        T.due("33 all", x.known(-1), true);
        T.due("33 also those to come", x.count(10), 4);
        for (int i = 4; i < 24; i++) {
            T.due("31 note " + i, x.note(0, 0, false), i);
        }
        T.due("31 24 are there", x.note(0, 0, false), -1);
        T.due("32 24 are there", x.strike(0), -1);
        T.due("9 notes", x.count(9), 24);
    }

    private static void thieves() {
        String town = "place a;place b;link a b 4;owner x 9;noise a x 30 30 9;";
        OwnedSilence x = Told.of(town);
        T.due("34 anyone", x.thieves(), 2 * 48 * 20);
        T.due("35 the last one", x.thief(1919, 1), 47);
        T.due("35 the last one's loudness", x.thief(1919, 2), 20);
        T.due("35 not so many", x.thief(1920, 0), -2);
        T.due("35 below", x.thief(-1, 0), -1);
        T.due("35 no such what", x.thief(0, 3), -1);
        x.note(1, 5, true);
        T.due("34 heard at b", x.thieves(), 16 + 20);
        T.due("35 at a", x.thief(0, 0), 0);
        T.due("35 then", x.thief(0, 1), 5);
        T.due("35 so loud", x.thief(0, 2), 5);
        T.due("35 at b", x.thief(16, 0), 1);
        x.note(0, 5, false);
        T.due("34 not at a", x.thieves(), 4);
        int strike = x.strike(1);
        T.due("34 struck", x.thieves(), 36);
        x.strike(strike);
        T.due("34 the strike struck", x.thieves(), 4);
        x.known(3);
        T.due("34 known by 3", x.thieves(), 36);
        x.known(2);
        T.due("34 known by 2", x.thieves(), 4);
        x.known(-1);
        x.note(1, 30, true);
        T.due("34 a noise of now", x.thieves(), 4);
        x.note(1, 6, true);
        T.due("34 at two minutes", x.thieves(), 0);
        OwnedSilence none = Told.of(town);
        none.note(0, 30, false);
        T.due("34 there is noise", none.thieves(), 0);
        T.due("35 there is noise", none.thief(0, 0), -2);
        none.stop(0);
        T.due("34 stopped", none.thieves(), 1920 - 20 - 16);
        none.note(0, 30, true);
        T.due("34 both", none.thieves(), 0);
        OwnedSilence two = Told.of("place a;place b;place c;link a b 4;link b c 4;owner x 9;");
        two.note(0, 0, true);
        two.note(1, 0, true);
        two.note(2, 0, false);
        // Heard at a and b, not at c: at a 5 to 8; at b it would be heard at c, too.
        T.due("34 two of three", two.thieves(), 4);
        T.due("35 from a", two.thief(0, 0), 0);
        T.due("35 at minute 0", two.thief(3, 1), 0);
        T.due("35 up to 8", two.thief(3, 2), 8);
        two.strike(0);
        two.note(0, 0, false);
        // Now at b 1 to 4 alone.
        T.due("34 none but b", two.thieves(), 4);
        T.due("35 from b", two.thief(0, 0), 1);
        T.due("34 no places", new OwnedSilence().thieves(), 0);
    }

    private static void left() {
        String town = "place a;place b;owner x 9;owner y 9;owner z 9;heir x y;heir y z;claim x a 0 20;claim z b 0 1;";
        OwnedSilence x = Told.of(town);
        T.due("36 all to the heir", x.left(0, 0), 21);
        T.due("36 halves, cut: 10 and 11", x.left(0, 1), 11);
        T.due("36 nobody's", x.left(0, 2), 2);
        T.due("36 without an heir", x.left(2, 0), 21);
        T.due("36 nothing to leave", x.left(1, 0), 21);
        T.due("36 no owner", x.left(3, 0), -1);
        T.due("36 below", x.left(-1, 0), -1);
        T.due("36 no law", x.left(0, 3), -1);
        T.due("36 law below", x.left(0, -1), -1);
        T.due("36 nothing changed", x.claim(0, 0), 0);
        String pair = "place a;owner x 9;owner y 9;heir x y;heir y x;claim x a 0 20;";
        T.due("36 the heir's heir died", Told.of(pair).left(0, 1), 21);
        String one = "place a;owner x 9;owner y 9;heir x y;claim x a 0 20;";
        T.due("36 the heir has none", Told.of(one).left(0, 1), 21);
        T.due("36 one left alone", Told.of("place a;owner x 9;claim x a 0 20;").left(0, 1), 0);
        OwnedSilence joined = Told.of("place a;owner x 9;owner y 9;heir x y;claim x a 0 4;claim y a 5 9;");
        T.due("36 rows of one owner join", joined.left(0, 0), 10);
        String third = "place a;owner x 9;owner y 9;owner z 9;heir x y;heir y z;";
        T.due("36 even halves", Told.of(third + "claim x a 11 20;").left(0, 1), 5);
        T.due("36 odd halves", Told.of(third + "claim x a 11 21;").left(0, 1), 6);
        T.due("36 of one minute all to the second", Told.of(third + "claim x a 11 11;claim z a 12 14;").left(0, 1), 4);
        T.due("36 the first half beside", Told.of(third + "claim x a 11 20;claim y a 6 10;").left(0, 1), 10);
        OwnedSilence eight = Told.of(third + times("claim x a 0 0;", 7) + "claim x a 20 39;");
        T.due("36 eight cut in halves", eight.left(0, 1), 10);
        OwnedSilence under = Told.of("place a;owner x 9;owner y 9;claim x a 0 9;claim y a 5 20;");
        T.due("36 the next claim there", under.left(0, 2), 16);
        OwnedSilence noise = Told.of("place a;owner x 9;noise a x 10 10 1;claim x a 0 9;");
        T.due("36 by a noise", noise.left(0, 2), 37);
    }

    private static void rests() {
        OwnedSilence x = new OwnedSilence();
        T.due("37 rests", x.rests(10, 1, 1), 2);
        T.due("38 first", x.rest(10, 1, 1, 0), 9);
        T.due("38 second", x.rest(10, 1, 1, 1), 90);
        T.due("38 not so many", x.rest(10, 1, 1, 2), -2);
        T.due("38 below", x.rest(10, 1, 1, -1), -1);
        T.due("37 for nothing, at no cost", x.rests(0, 0, 0), 100);
        T.due("38 the last one", x.rest(0, 0, 0, 99), 99);
        // At no cost more is better: only both at 9, or one at 9 who wins it all.
        T.due("37 at no cost", x.rests(10, 0, 0), 1);
        T.due("38 at no cost", x.rest(10, 0, 0, 0), 99);
        // One waits for free, the other at a cost above all: both 0 is none, since one would say 1.
        T.due("37 one for free", x.rests(4, 0, 99), 9);
        T.due("38 one for free", x.rest(4, 0, 99, 0), 10);
        T.due("37 dear for both", x.rests(99, 99, 99), 18);
        T.due("38 dear for both", x.rest(99, 99, 99, 0), 1);
        T.due("38 dear for both, behind 09", x.rest(99, 99, 99, 9), 10);
        // Half of 1 is 0, cut: at 9 the other one has nothing by any number.
        T.due("37 half of 1", x.rests(1, 0, 0), 19);
        for (int bad : new int[] {-1, 100}) {
            T.due("37 prize " + bad, x.rests(bad, 0, 0), -1);
            T.due("37 one " + bad, x.rests(0, bad, 0), -1);
            T.due("37 other " + bad, x.rests(0, 0, bad), -1);
            T.due("38 prize " + bad, x.rest(bad, 0, 0, 0), -1);
            T.due("38 other " + bad, x.rest(0, 0, bad, 0), -1);
        }
    }

    private static void year() {
        OwnedSilence x = Told.of(STREET);
        T.due("39 no days", x.year(1, 0), 0);
        T.due("39 below", x.year(-1, 1), -1);
        T.due("39 days below", x.year(1, -1), -1);
        T.due("39 too many days", x.year(1, 21), -1);
        // From 1: 1103527590 told 16838, modulo 3 is 2: nothing.
        T.due("39 nothing", x.year(1, 1), 124);
        // From 0: 12345 told 0: snow; nothing of loud 4 remains.
        T.due("39 snow", x.year(0, 1), 144);
        // From 3: 1163074432 and so on; the day's kind is worked out here step by step.
        T.due("39 twenty days", x.year(7, 20), days(7, 20));
        T.due("39 the greatest seed", x.year(Integer.MAX_VALUE, 20), days(Integer.MAX_VALUE, 20));
        T.due("39 no owners", Told.of("place a;").year(7, 20), 20 * 48);
        T.due("39 no places", Told.of("owner x 1;").year(7, 20), 0);
        T.due("39 one place, one owner", Told.of("place a;owner x 1;").year(7, 20), 20 * 48 - 4 * quarrels(7, 20));
        for (int seed = 0; seed < 40; seed++) {
            T.due("39 from " + seed, x.year(seed, 9), days(seed, 9));
        }
        T.due("39 nothing changed", x.count(15), 124);
    }

    /** A year of the street, told apart from the program: a quarrel's noise reaches a, b, c by 2, 5, 3. */
    private static int days(long seed, int n) {
        int[][] far = {{0, 2, 5}, {2, 0, 3}, {5, 3, 0}};
        long number = seed;
        int sum = 0;
        for (int day = 0; day < n; day++) {
            number = (number * 1103515245L + 12345L) & 0x7fffffffL;
            long kind = number / 65536 % 3;
            if (kind == 0) {
                sum += 144;
            } else if (kind == 2) {
                sum += 124;
            } else {
                number = (number * 1103515245L + 12345L) & 0x7fffffffL;
                int place = (int) (number / 65536 % 3);
                number = (number * 1103515245L + 12345L) & 0x7fffffffL;
                number = (number * 1103515245L + 12345L) & 0x7fffffffL;
                int from = (int) (number / 65536 % 44);
                sum += 124;
                for (int other = 0; other < 3; other++) {
                    for (int m = from; m < from + 4 && 10 - far[place][other] >= 1; m++) {
                        sum -= other < 2 && m >= 10 && m <= 19 ? 0 : 1;
                    }
                }
            }
        }
        return sum;
    }

    private static int quarrels(long seed, int n) {
        long number = seed;
        int many = 0;
        for (int day = 0; day < n; day++) {
            number = (number * 1103515245L + 12345L) & 0x7fffffffL;
            if (number / 65536 % 3 == 1) {
                many++;
                for (int i = 0; i < 3; i++) {
                    number = (number * 1103515245L + 12345L) & 0x7fffffffL;
                }
            }
        }
        return many;
    }

    private static void tried() {
        OwnedSilence x = Told.of(STREET + "noise b y 40 40 6;");
        x.wall(0, true);
        // Walled: noise 0 only at a (10 minutes), noise 1 at b and c.
        T.due("40 as it is", x.count(15), 144 - 12);
        T.due("40 no walls", x.tried(0, 0), 144 - 20 - 3);
        T.due("40 no noise 1", x.tried(1, 1), 144 - 10);
        T.due("40 x makes none", x.tried(2, 0), 144 - 2);
        T.due("40 less loud", x.tried(3, 0), 144 - 1);
        T.due("40 no link 1", x.tried(4, 1), 144 - 11);
        T.due("40 all day at c", x.tried(5, 2), 144 - 48 - 48 - 10);
        T.due("40 nothing changed", x.count(15), 144 - 12);
        T.due("40 still walled", x.link(0, 3), 1);
        int[][] bad = {{0, 1}, {0, -1}, {3, 1}, {1, 2}, {1, -1}, {2, 2}, {4, 2}, {5, 3}, {5, -1}, {6, 0}, {-1, 0}};
        for (int[] one : bad) {
            T.due("40 tried " + one[0] + " " + one[1], x.tried(one[0], one[1]), -1);
        }
        T.due("40 loud 8", Told.of("place a;place b;place c;link a b 7;link a c 8;owner x 1;").tried(5, 0), 48);
        x.stop(1);
        T.due("40 a stopped one", x.tried(1, 1), x.count(15));
        for (int i = 2; i < 12; i++) {
            x.make(0, 0, 0, 0, 1);
        }
        T.due("40 one more than twelve", x.tried(5, 2), 144 - 48 - 48 - 11);
    }

    private static void undo() {
        OwnedSilence x = Told.of(STREET);
        T.due("41 none", x.undo(), -1);
        x.make(0, 0, 0, 0, 1);
        x.stop(1);
        x.wall(0, true);
        x.sell(0, 0, 7);
        x.wall(0, false);
        T.due("41 so many", x.count(11), 5);
        T.due("41 the wall", x.undo(), 4);
        T.due("41 is there again", x.link(0, 3), 1);
        T.due("41 the sale", x.undo(), 3);
        T.due("41 the claim", x.claim(0, 0), 1);
        T.due("41 the buyer's coin", x.owner(0, 0), 20);
        T.due("41 the seller's coin", x.owner(1, 0), 5);
        T.due("41 the first wall", x.undo(), 2);
        T.due("41 is gone", x.far(0, 1), 2);
        T.due("41 so b hears it", x.heard(1, 12), 0);
        T.due("41 the stop", x.undo(), 1);
        T.due("41 goes on", x.noise(1, 5), 0);
        T.due("41 what was made", x.undo(), 0);
        T.due("41 isn't there", x.noise(1, 0), -1);
        T.due("41 no more", x.undo(), -1);
        x.wall(0, true);
        x.go(0);
        T.due("41 none went by", x.count(11), 1);
        x.wall(7, true);
        T.due("41 nothing done, nothing to undo", x.count(11), 1);
        x.go(1);
        T.due("41 one went by", x.undo(), -1);
        for (int i = 0; i < 25; i++) {
            x.wall(0, i % 2 != 0);
        }
        T.due("41 twenty at most", x.count(11), 20);
        x.wall(0, true);
        x.make(0, 0, 0, 0, 1);
        T.due("41 still twenty", x.count(11), 20);
        T.due("41 the noise goes first", x.undo(), 19);
        T.due("41 it is gone", x.count(3), 1);
        x.wall(1, true);
        for (int i = 19; i >= 0; i--) {
            T.due("41 left", x.undo(), i);
        }
        T.due("41 the five first ones stay", x.link(0, 3), 0);
        T.due("41 no more of them", x.undo(), -1);
    }

    /** The oldest of 21 changes can't be undone, all others can, each its own way. */
    private static void undoOldest() {
        OwnedSilence x = Told.of(STREET);
        for (int i = 1; i < 12; i++) {
            x.make(i % 3, i % 2, i, i + 1, i);
        }
        x.sell(1, 1, 4);
        x.wall(1, true);
        for (int i = 0; i < 8; i++) {
            x.stop(i);
        }
        T.due("41 twenty of 21", x.count(11), 20);
        for (int i = 19; i >= 0; i--) {
            T.due("41 of 21 left", x.undo(), i);
        }
        T.due("41 the first one made stays", x.count(3), 2);
        T.due("41 it isn't stopped", x.noise(1, 5), 0);
        T.due("41 no wall", x.count(12), 0);
        T.due("41 not sold", x.claim(1, 0), 0);
        T.due("41 not paid", x.owner(1, 0), 5);
    }

    private static void images() {
        OwnedSilence x = Told.of(STREET);
        T.due("43 none", x.back(), -1);
        x.go(3);
        x.wall(1, true);
        T.due("42 keep", x.keep(), 3);
        T.due("42 undo stays", x.count(11), 1);
        x.note(0, 0, true);
        x.known(0);
        x.wall(0, true);
        x.make(0, 0, 0, 0, 1);
        x.stop(0);
        x.go(2);
        x.sell(0, 0, 3);
        T.due("43 back", x.back(), 3);
        T.due("43 the minute", x.count(8), 3);
        T.due("43 the walls", x.count(12), 1);
        T.due("43 the noises", x.count(3), 1);
        T.due("43 none stopped", x.noise(0, 5), 0);
        T.due("43 the claims", x.claim(0, 0), 1);
        T.due("43 the coin", x.owner(0, 0), 20);
        T.due("43 nothing to undo", x.undo(), -1);
        T.due("43 notes stay", x.count(9), 1);
        T.due("43 known stays", x.count(10), 0);
        T.due("43 what is heard", x.heard(1, 12), 0);
        x.go(10);
        T.due("43 again", x.back(), 3);
        x.go(1);
        T.due("42 in its place", x.keep(), 4);
        x.go(1);
        T.due("43 that one", x.back(), 4);
        Told.feed(x, "place");
        x.back();
        T.due("43 the tape stays", x.text(6), -1);
        x.back();
        T.due("43 the fault stays", x.fault(0), 1);
    }

    private static void count() {
        OwnedSilence x = Told.of(STREET + "noise c y 0 0 1;task x a 1 1;dog a 1;dog c 1;law fade loud-far;law worth long;");
        x.make(0, 0, 0, 0, 1);
        x.stop(2);
        x.wall(1, true);
        x.wall(0, true);
        x.wall(0, false);
        x.note(0, 0, true);
        int[] due = {3, 2, 2, 3, 2, 1, 2, 4, 0, 1, 1, 5, 1, 5, 25, 123};
        for (int what = 0; what < 16; what++) {
            T.due("44 count " + what, x.count(what), due[what]);
        }
        T.due("44 below", x.count(-1), -1);
        T.due("44 beyond", x.count(16), -1);
        x.go(48);
        T.due("44 the minute", x.count(8), 48);
        T.due("44 all the day's trespasses", x.count(13), 5);
    }

    /** Whatever the arguments, nothing but what the document says is thrown. */
    private static void wild() {
        int[] odd = {Integer.MIN_VALUE, -65536, -3, -2, -1, 0, 1, 2, 5, 11, 12, 31, 32, 47, 48, 63, 64, 999, 65536, Integer.MAX_VALUE};
        int calls = 0;
        for (String text : new String[] {"", STREET, places(6), "owner x 1;"}) {
            for (int a : odd) {
                for (int b : odd) {
                    calls += wildCalls(Told.of(text), a, b);
                }
            }
        }
        T.due("wild calls", calls > 0, true);
    }

    private static int wildCalls(OwnedSilence x, int a, int b) {
        thrown(x, a, b);
        x.note(a, b, true);
        x.strike(a);
        x.known(b);
        long sum = x.noise(a, b) + x.claim(a, b) + x.link(a, b) + x.far(a, b) + x.law(a, b, b, a) + x.heard(a, b) + x.hush(a);
        sum += x.whose(a, b) + x.span(a, b) + x.piece(a, b) + x.share(a, b) + x.part(a, b) + x.leaves(a) + x.named(a, b);
        sum += x.make(a, b, a, b, a) + x.make(0, 0, a, b, 20) + (x.stop(a) ? 1 : 0) + (x.wall(a, true) ? 1 : 0);
        sum += (x.sell(a, b, a) ? 1 : 0) + x.planned(a, b) + x.walls(a, b) + x.bark(a, b) + x.thief(a, b) + x.left(a, b);
        sum += x.rests(a, b, a) + x.rest(a, b, a, b) + x.year(a, b) + x.tried(a, b) + x.count(a) + x.fault(a) + x.text(a);
        sum += x.go(a) + x.undo() + x.keep() + x.back() + x.thieves() + x.plan() + x.spans() + x.pieces();
        return sum == 42 ? 1 : 2;
    }

    public static void main(String[] args) {
        newObject();
        feed();
        text();
        fault();
        named();
        owner();
        rows();
        far();
        law();
        silence();
        spansAndPieces();
        worth();
        changes();
        go();
        plan();
        walls();
        bark();
        notes();
        thieves();
        left();
        rests();
        year();
        tried();
        undo();
        undoOldest();
        images();
        count();
        wild();
        T.end();
    }
}
