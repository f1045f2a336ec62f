import java.util.ArrayList;
import java.util.List;

/**
 * The bounds of the language that a text is told in: above each test stands the sentence of the document that
 * names the bound; the last thing still taken and the first one that isn't, with its FAULT and place.
 */
public final class TextEdgeTest {
    private static final Told T = new Told();
    private static final String[] TONGUE = {"place", "link", "owner", "heir", "noise", "claim", "right", "task", "dog",
        "wall", "fine", "seed", "law", "fade", "worth", "or", "and", "not", "loud", "far", "minute", "long", "many", "who"};
    private static final String[] SIGNS = {"+", "-", "*", "/", "<", "<=", "=", "<>", ">=", ">"};
    private static final String SIX = "place a;place b;place c;place d;place e;place f;";
    private static final String ONE = "place a;owner x 1;";

    private static void ok(String text) {
        T.fault(text, 0, -1);
    }

    // ---- tokens

    // "words: small letters in a row; W: one of 1 .. 6 letters"; "1 a TOKEN that is none (a word of more than 6
    // letters that is none of the language, too)"
    private static void lettersOfAWord() {
        ok("place a;place z;place az;place abcdef;place abcdeg;place zzzzzz;");
        T.fault("place ;", 1, 6);
        T.fault("place abcdefg;", 1, 6);
        T.fault("place abcdefghijklmnopqrstuvwxyz;", 1, 6);
        T.fault("place minutes;", 1, 6);
        T.fault("place `;", 1, 6);
        T.fault("place {;", 1, 6);
        T.fault("place A;", 1, 6);
        T.fault("place Z;", 1, 6);
        T.fault("place a`;", 1, 7);
        T.fault("place a{;", 1, 7);
        T.fault("place abcdef g;", 1, 13);
        T.fault("abcdefg", 1, 0);
        T.fault("placeplace a;", 1, 0);
        T.fault("place a;dog abcdefg 1;", 1, 12);
        T.fault("owner abcdefg 1;", 1, 6);
        OwnedSilence x = Told.of("place abcdef;place a;place ab;owner abcdef 1;");
        T.due("six letters named", x.named(0, Told.letters("abcdef")), 0);
        T.due("one letter named", x.named(0, Told.letters("a")), 1);
        T.due("two letters named", x.named(0, Told.letters("ab")), 2);
    }

    // "none of those of the language": each of them, and what is a letter less or more than one
    private static void wordsOfTheLanguage() {
        for (String word : TONGUE) {
            T.fault("place " + word + ";", 1, 6);
            T.fault("owner " + word + " 1;", 1, 6);
            T.fault("place a;link a " + word + " 1;", 1, 15);
            T.fault("place a;link " + word + " a 1;", 1, 13);
            T.fault("owner x 1;heir " + word + " x;", 1, 15);
            T.fault("owner x 1;heir x " + word + ";", 1, 17);
            ok("place " + word.substring(1) + ";");
            ok("place " + word.substring(0, word.length() - 1) + ";");
            T.fault("place " + word + "x;", word.length() < 6 ? 0 : 1, word.length() < 6 ? -1 : 6);
        }
    }

    // "Blanks 10, 32": of all bytes these two alone part tokens and are none
    private static void blanks() {
        for (int sign = 0; sign < 256; sign++) {
            boolean isBlank = sign == 10 || sign == 32;
            boolean isLetter = sign >= 'a' && sign <= 'z';
            if (isBlank || sign == '0') {
                ok("fine" + (char) sign + "1;");
            } else if (sign >= '1' && sign <= '9') {
                T.fault("fine" + (char) sign + "1;", 2, 4);
            } else {
                T.fault("fine" + (char) sign + "1;", 1, isLetter ? 0 : 4);
            }
            if (isBlank) {
                ok("fine 1;" + (char) sign);
            } else {
                T.fault("fine 1;" + (char) sign, 1, 7);
            }
        }
        ok("\n \nplace\n\na \n ; \n");
        ok("wall5;fine9;seed0;");
        T.fault("pl ace a;", 1, 0);
        T.fault("fine 1 0;", 1, 7);
    }

    // "1 a TOKEN that is none": each byte that begins none, whatever stands there
    private static void tokensThatAreNone() {
        String some = ";()+-*/<=>";
        for (int sign = 0; sign < 256; sign++) {
            boolean isSome = sign == 10 || sign == 32 || sign >= '0' && sign <= '9' || sign >= 'a' && sign <= 'z'
                    || some.indexOf(sign) >= 0;
            if (!isSome) {
                T.fault("" + (char) sign, 1, 0);
                T.fault("law fade 1" + (char) sign + "1;", 1, 10);
                T.fault("place a " + (char) sign + ";", 1, 8);
            }
        }
        for (char sign : some.toCharArray()) {
            T.fault("place a;" + sign, 1, 8);
            T.fault("place " + sign, 1, 6);
            T.fault("owner x " + sign, 1, 8);
        }
    }

    // "N: digits": however many, with noughts ahead; no number beyond is taken for another one
    private static void digits() {
        ok("fine 0;");
        ok("fine 000000000000000000000000009;");
        ok("seed 00099999;law fade 0000000000009999;");
        T.due("digits from the left", Told.of("owner x 120;").owner(0, 0), 120);
        T.due("noughts ahead", Told.of("owner x 00000000000000000987;").owner(0, 0), 987);
        T.fault("fine /;", 1, 5);
        T.fault("fine :;", 1, 5);
        T.fault("fine 1/;", 1, 6);
        T.fault("fine 1:;", 1, 6);
        T.fault("fine -1;", 1, 5);
        T.fault("fine +1;", 1, 5);
        for (String beyond : new String[] {"1000000", "1000001", "2147483648", "4294967296", "4294967297", "42949672961",
            "9223372036854775808", "18446744073709551616", "18446744073709551617", "99999999999999999999999999"}) {
            T.fault("fine " + beyond + ";", 2, 5);
            T.fault("owner x " + beyond + ";", 2, 8);
            T.fault("seed " + beyond + ";", 2, 5);
            T.fault("law worth " + beyond + ";", 2, 10);
        }
    }

    // "A = (or > behind <) right behind < or > belongs to it"
    private static void comparisons() {
        for (String sign : new String[] {"<", "<=", "=", "<>", ">=", ">"}) {
            ok("law fade 1" + sign + "2;");
            ok("law fade 1 " + sign + " 2;");
        }
        T.fault("law fade 1< =2;", 1, 12);
        T.fault("law fade 1<\n>2;", 1, 12);
        T.fault("law fade 1> =2;", 1, 12);
        T.fault("law fade 1=<2;", 1, 11);
        T.fault("law fade 1=>2;", 1, 11);
        T.fault("law fade 1==2;", 1, 11);
        T.fault("law fade 1><2;", 1, 11);
        T.fault("law fade 1<<2;", 1, 11);
        T.fault("law fade 1>>2;", 1, 11);
        T.fault("law fade 1<==2;", 1, 12);
        T.fault("law fade 1<>=2;", 1, 12);
        T.fault("law fade 1<=>2;", 1, 12);
        T.fault("law fade 1>=>2;", 1, 12);
        T.fault("law fade 1>==2;", 1, 12);
        T.fault("law fade 1<", 1, 11);
        T.fault("law fade 1>", 1, 11);
    }

    // "C: S [ ( < | <= | = | <> | >= | > ) S ]": one comparison at most, but for such in '('
    private static void oneComparison() {
        for (String one : new String[] {"<", "<=", "=", "<>", ">=", ">"}) {
            for (String other : new String[] {"<", "<=", "=", "<>", ">=", ">"}) {
                T.fault("law fade 1" + one + "2" + other + "3;", 1, 11 + one.length());
                T.fault("law fade not 1" + one + "2+1" + other + "3;", 1, 17 + one.length());
                T.fault("law fade (1" + one + "2" + other + "3);", 1, 12 + one.length());
                ok("law fade (1" + one + "2)" + other + "3;");
                ok("law fade 1" + one + "(2" + other + "3);");
                ok("law fade 1" + one + "2 and 3" + other + "4;");
                ok("law fade 1" + one + "2 or not 3" + other + "4;");
            }
        }
    }

    // "B: not B | C": a not stands ahead of a C alone
    private static void whereNotStands() {
        ok("law fade not 1;");
        ok("law fade not not not 1;");
        ok("law fade not (not 1);");
        ok("law fade 1 or not 1 and not 1;");
        T.fault("law fade not ;", 1, 13);
        T.fault("law fade 1 not 1;", 1, 11);
        T.fault("law fade 1 not;", 1, 11);
        for (String sign : SIGNS) {
            T.fault("law fade 1" + sign + "not 1;", 1, 10 + sign.length());
            ok("law fade 1" + sign + "(not 1);");
            ok("law fade not 1" + sign + "1;");
        }
    }

    // "E: A { or A }. A: B { and B } .. P: N | NAME | '(' E ')'": what stands where an operand or a sign must
    private static void whatStandsInALaw() {
        for (String wrong : new String[] {";", ")", "and", "or", "+", "<=", "a", "abcdefg", "place", "fade", "!"}) {
            T.fault("law fade " + wrong, 1, 9);
            T.fault("law fade (" + wrong, 1, 10);
            T.fault("law fade 1+" + wrong, 1, 11);
            T.fault("law fade 1 and " + wrong, 1, 15);
            T.fault("law fade not " + wrong, 1, 13);
        }
        for (String wrong : new String[] {"1", "(", ")", "not", "loud", "a", "abcdefg", "place", "fade", "!"}) {
            T.fault("law fade 1 " + wrong, 1, 11);
            T.fault("law fade (1) " + wrong, 1, 13);
        }
        T.fault("law fade (1;", 1, 11);
        T.fault("law fade ((1);", 1, 13);
        T.fault("law fade (1));", 1, 12);
        T.fault("law fade ();", 1, 10);
        for (String name : new String[] {"loud", "far", "minute", "long", "many", "who"}) {
            ok("law fade " + name + ";law worth " + name + ";");
        }
    }

    // "1 .. can't stand there (the length, if more must come)": each LINE, cut and spoilt at each of its tokens
    private static void eachToken() {
        String all = "place a ; place b ; owner x 7 ; owner y 7 ; link a b 1 ; heir x y ; noise a x 1 2 3 ; claim x a 1 2 ; "
                + "right y b 1 2 ; task x a 1 2 ; dog a 1 ; wall 1 ; fine 1 ; seed 1 ; law fade ( 1 + far ) / 2 ; "
                + "law worth not 1 < 2 and many or 3 ;";
        String[] tokens = all.split(" ");
        StringBuilder ahead = new StringBuilder();
        int lines = 0;
        for (int i = 0; i < tokens.length; i++) {
            boolean begins = i == 0 || tokens[i - 1].equals(";");
            String told = ahead.toString();
            if (begins) {
                T.due("lines of " + told, Told.tell(new OwnedSilence(), told), lines);
            } else {
                T.fault(told, 1, told.length());
                T.fault(told + "\n ", 1, told.length() + 2);
            }
            for (String wrong : new String[] {"!", "abcdefg", "fade;", ")"}) {
                boolean closes = wrong.equals(")") && (told.endsWith("( 1 ") || told.endsWith("far "));
                if (!closes && !(wrong.equals("fade;") && told.endsWith("law "))) {
                    T.fault(told + wrong + " 1;", 1, told.length());
                }
            }
            ahead.append(tokens[i]).append(' ');
            lines += tokens[i].equals(";") ? 1 : 0;
        }
        T.due("all of its lines", Told.tell(new OwnedSilence(), all), 16);
    }

    // ---- numbers

    private static void bound(String ahead, int least, int most, String behind) {
        ok(ahead + least + behind);
        ok(ahead + most + behind);
        T.fault(ahead + (most + 1) + behind, 2, ahead.length());
        T.fault(ahead + "1000000000000" + behind, 2, ahead.length());
        if (least > 0) {
            T.fault(ahead + (least - 1) + behind, 2, ahead.length());
            T.fault(ahead + "0" + behind, 2, ahead.length());
        }
    }

    // "LENGTH 1 .. 9", "COIN 0 .. 999", "EAR 1 .. 20", "a LINK 1 .. 9", "fine: 0 .. 9", "seed: 0 .. 99999",
    // "N of E 0 .. 9999"
    private static void boundsOfNumbers() {
        bound("place a;place b;link a b ", 1, 9, ";");
        bound("owner x ", 0, 999, ";");
        bound("place a;dog a ", 1, 20, ";");
        bound("wall ", 1, 9, ";");
        bound("fine ", 0, 9, ";");
        bound("seed ", 0, 99999, ";");
        bound("law fade ", 0, 9999, ";");
        bound("law worth (2-", 0, 9999, ")*3;");
    }

    // "A DAY has MINUTES 0 .. 47", "from a MINUTE to one (not below it)", "LOUD 1 .. 20", "1 .. 12 MINUTES"
    private static void boundsOfTimes() {
        bound(ONE + "noise a x ", 0, 47, " 47 1;");
        bound(ONE + "noise a x 0 ", 0, 47, " 1;");
        bound(ONE + "noise a x 30 ", 30, 47, " 1;");
        bound(ONE + "noise a x 47 ", 47, 47, " 1;");
        bound(ONE + "noise a x 1 2 ", 1, 20, ";");
        for (String kind : new String[] {"claim", "right"}) {
            bound(ONE + kind + " x a ", 0, 47, " 47;");
            bound(ONE + kind + " x a 0 ", 0, 47, ";");
            bound(ONE + kind + " x a 30 ", 30, 47, ";");
            bound(ONE + kind + " x a 47 ", 47, 47, ";");
        }
        bound(ONE + "task x a ", 1, 12, " 1;");
        bound(ONE + "task x a 1 ", 1, 20, ";");
    }

    // the same numbers are there behind the text
    private static void boundsAreTaken() {
        OwnedSilence x = Told.of("place a;place b;place c;link a b 9;link b c 1;owner x 999;owner y 0;noise a x 0 47 20;"
                + "noise c y 47 47 1;claim x a 0 0;claim y c 47 47;wall 9;");
        T.due("LENGTH 9", x.link(0, 2), 9);
        T.due("LENGTH 1", x.link(1, 2), 1);
        T.due("COIN 999", x.owner(0, 0), 999);
        T.due("COIN 0", x.owner(1, 0), 0);
        T.due("LOUD 20", x.noise(0, 4), 20);
        T.due("LOUD 1", x.noise(1, 4), 1);
        T.due("from 0", x.noise(0, 2), 0);
        T.due("to 47", x.noise(0, 3), 47);
        T.due("from 47", x.noise(1, 2), 47);
        T.due("claim from 0", x.claim(0, 2), 0);
        T.due("claim to 0", x.claim(0, 3), 0);
        T.due("claim to 47", x.claim(1, 3), 47);
        x.wall(0, true);
        T.due("wall 9", x.far(0, 1), 18);
    }

    // "(5 without)", "fine: 0 .. 9 (1)": what counts if none is told, and each end of what may be
    private static void withoutWallAndFine() {
        String town = "place a;place b;link a b 1;owner x 100;owner y 0;noise a x 0 0 1;claim y a 0 0;";
        int[][] walls = {{0, 6}, {1, 2}, {9, 10}};
        for (int[] wall : walls) {
            OwnedSilence x = Told.of(town + (wall[0] == 0 ? "" : "wall " + wall[0] + ";"));
            x.wall(0, true);
            T.due("wall " + wall[0], x.far(0, 1), wall[1]);
        }
        int[][] fines = {{-1, 1}, {0, 0}, {9, 9}};
        for (int[] fine : fines) {
            OwnedSilence x = Told.of(town + (fine[0] < 0 ? "" : "fine " + fine[0] + ";"));
            x.go(1);
            T.due("fine " + fine[0], x.owner(1, 0), fine[1]);
        }
    }

    // ---- how many

    private static String times(String line, int n) {
        return line.repeat(n);
    }

    private static void most(String ahead, String word, String rest, int most, int count) {
        String full = ahead + times(word + rest + ";", most);
        ok(full);
        T.due("count " + count + " of " + full, Told.of(full).count(count), most);
        T.fault(full + word + rest + ";", 2, full.length());
        T.fault(full + " " + word, 2, full.length() + 1);
        T.fault(full + word + " !", 2, full.length());
    }

    // "PLACES, at most 6. LINKS, at most 9 .. OWNERS, at most 4 .. NOISES, at most 8 .. CLAIMS, at most 8, RIGHTS, at
    // most 6 .. TASKS, at most 4"; "2 too much (at it): .. a seventh place and so on (at the word of the LINE)"
    private static void howMany() {
        ok(SIX);
        T.fault(SIX + "place g;", 2, SIX.length());
        T.fault(SIX + "place a;", 2, SIX.length());
        T.fault(SIX + "place", 2, SIX.length());
        String four = "owner w 0;owner x 0;owner y 0;owner z 0;";
        ok(four);
        T.fault(four + "owner v 0;", 2, four.length());
        T.fault(four + "owner w 0;", 2, four.length());
        StringBuilder links = new StringBuilder(SIX);
        for (String pair : new String[] {"a b", "a c", "a d", "a e", "a f", "b c", "b d", "b e", "b f"}) {
            ok(links.toString());
            links.append("link ").append(pair).append(" 1;");
        }
        ok(links.toString());
        T.fault(links + "link c d 1;", 2, links.length());
        T.fault(links + "link a b 1;", 2, links.length());
        T.fault(links + "link", 2, links.length());
        most(ONE, "noise", " a x 0 0 1", 8, 3);
        most(ONE, "claim", " x a 0 0", 8, 4);
        most(ONE, "task", " x a 1 1", 4, 5);
        String rights = ONE + times("right x a 0 0;", 6);
        ok(rights);
        T.fault(rights + "right x a 0 0;", 2, rights.length());
        T.fault(rights + "right", 2, rights.length());
        T.fault(SIX + "owner place", 1, SIX.length() + 6);
    }

    // all kinds full at once, in less than 700 bytes
    private static void theFullest() {
        StringBuilder s = new StringBuilder(SIX);
        s.append("owner w 0;owner x 0;owner y 0;owner z 0;heir w x;heir x w;heir y x;heir z x;");
        for (String pair : new String[] {"a b", "a c", "a d", "a e", "a f", "b c", "b d", "b e", "b f"}) {
            s.append("link ").append(pair).append(" 1;");
        }
        s.append(times("noise a w 0 0 1;", 8)).append(times("claim w a 0 0;", 8)).append(times("right w a 0 0;", 6));
        s.append(times("task w a 1 1;", 4));
        s.append("dog a 1;dog b 1;dog c 1;dog d 1;dog e 1;dog f 1;wall 1;fine 1;seed 1;law fade 1;law worth 1;");
        OwnedSilence x = new OwnedSilence();
        T.due("its lines", Told.tell(x, s.toString()), 60);
        int[] due = {6, 9, 4, 8, 8, 4, 6, 2};
        for (int what = 0; what < due.length; what++) {
            T.due("of the fullest, count " + what, x.count(what), due[what]);
        }
    }

    // "a ninth '(' open": eight are, and those that are closed don't count
    private static void openOnes() {
        ok("law fade " + times("(", 8) + "1" + times(")", 8) + ";");
        T.fault("law fade " + times("(", 9) + "1" + times(")", 9) + ";", 2, 17);
        T.fault("law fade " + times("1+(", 9) + "1" + times(")", 9) + ";", 2, 9 + 26);
        ok("law fade " + times("1+(", 8) + "1" + times(")", 8) + ";");
        ok("law fade " + times("(1)+", 20) + "1;");
        ok("law fade " + times("(", 7) + "(1)+(2)" + times(")", 7) + ";");
        T.fault("law fade " + times("(", 7) + "(1)+((2", 2, 9 + 7 + 5);
        ok("law fade " + times("(", 8) + "1" + times(")", 8) + ";law worth " + times("(", 8) + "1" + times(")", 8) + ";");
        T.fault("law fade 1;law worth " + times("(", 9), 2, 21 + 8);
        T.fault("law fade " + times("not (", 9), 2, 9 + 8 * 5 + 4);
    }

    // those that a text with a FAULT left open, and its signs, are none of the next text's
    private static void openOnesOfAnother() {
        String[] broken = {"law fade " + times("(", 8) + "1+", "law fade 1 and not 2*(3-(", "law fade " + times("not (", 9),
            "law fade 1" + times("+1", 31) + "+1;", "law worth (1<2<3);"};
        for (String text : broken) {
            OwnedSilence x = new OwnedSilence();
            T.due("broken " + text, Told.tell(x, text), -1);
            T.due("eight open", Told.tell(x, "law fade " + times("(", 8) + "2" + times(")", 8) + ";"), 1);
            T.due("its value", x.law(0, 0, 0, 0), 2);
            T.due("its KNOTS", x.count(7), 1);
            T.due("broken again " + text, Told.tell(x, text), -1);
            T.due("nothing open to close", Told.tell(x, "law fade 1);"), -1);
            T.due("where it would close", x.fault(1), 10);
            T.due("broken once more " + text, Told.tell(x, text), -1);
            T.due("64 KNOTS", Told.tell(x, "law fade 7" + times("-0", 30) + "*not 1;"), -1);
            T.due("64 KNOTS again", Told.tell(x, "law worth not 7" + times("*0", 31) + ";"), 1);
            T.due("their value", x.law(1, 0, 0, 0), 1);
        }
    }

    // "a 65th KNOT of all E (N, NAMES, signs, not, and, or: one each)"
    private static void knots() {
        String operand = "law fade 1" + times("+1", 31) + " and ";
        String sign = "law fade not 1" + times("+1", 31);
        T.fault(operand + "1;", 2, operand.length());
        T.fault(operand + "(1);", 2, operand.length() + 1);
        T.fault(operand + "not 1;", 2, operand.length());
        T.fault(operand + "10000;", 2, operand.length());
        for (String name : new String[] {"loud", "far", "minute", "long", "many", "who"}) {
            T.fault(operand + name + ";", 2, operand.length());
        }
        ok(sign + ";");
        T.due("64 KNOTS", Told.of(sign + ";").count(7), 64);
        for (String one : SIGNS) {
            T.fault(sign + one + "1;", 2, sign.length());
            String signs = "law fade 1" + times(one.length() > 1 || "<=>".contains(one) ? "*1" : one + "1", 31) + ";";
            T.due("KNOTS of 31 times " + one, Told.of(signs).count(7), 63);
        }
        T.fault(sign + " and 1;", 2, sign.length() + 1);
        T.fault(sign + " or 1;", 2, sign.length() + 1);
        T.due("KNOTS of each kind", Told.of("law fade (not 1 and loud<=((2)) or far-0);").count(7), 10);
        String both = "law fade 1" + times("+1", 31) + ";";
        ok(both + "law worth 1;");
        T.due("64 KNOTS of both", Told.of(both + "law worth 1;").count(7), 64);
        T.fault(both + "law worth 1+1;", 2, both.length() + 11);
        T.fault(both + "law worth not 1;", 2, both.length() + 14);
        T.fault(sign + ";law worth who;", 2, sign.length() + 11);
        ok("law fade ((((1" + times("+(1)", 31) + "))));law worth ((((((((1))))))));");
        OwnedSilence x = Told.of(sign + ";");
        T.due("KNOTS of a text don't count for the next", Told.tell(x, sign + ";"), 1);
    }

    // ---- told already, not told, with itself

    // "3 told already: a name of its kind (at W)"; "PLACES, OWNERS have names of their kind"
    private static void namesOfAKind() {
        ok("place a;owner a 1;place b;owner b 1;");
        T.fault("place a;place b;place a;", 3, 22);
        T.fault("place abcdef;place abcdef;", 3, 19);
        T.fault("owner a 1;owner b 1;owner b 1000;", 3, 26);
        ok("place abcdef;place abcde;place bcdef;");
        OwnedSilence x = Told.of("owner b 7;place a;place b;owner a 1;");
        T.due("place a", x.named(0, Told.letters("a")), 0);
        T.due("owner a", x.named(1, Told.letters("a")), 1);
        T.due("numbered as they come", x.owner(0, 0), 7);
    }

    // "two unlike PLACES (each two once, either way)"; "a LINK of the same two PLACES (at the second W)"; "5 a LINK of a
    // PLACE with itself .. (at the second W)"
    private static void linksOfTwo() {
        String two = "place a;place b;place c;link a b 1;";
        ok(two + "link b c 1;link c a 1;");
        T.fault(two + "link a b 1;", 3, two.length() + 7);
        T.fault(two + "link b a 10;", 3, two.length() + 7);
        T.fault(two + "link c c 1;", 5, two.length() + 7);
        T.fault(two + "link a a 0;", 5, two.length() + 7);
        T.fault(two + "link b b", 5, two.length() + 7);
    }

    // "heir: of an OWNER another one (each once)"; "an heir of the same OWNER .. (at the first W)"; "5 .. an OWNER who is
    // one's own heir (at the second W)"
    private static void heirsOnce() {
        String two = "owner x 1;owner y 1;owner z 1;";
        ok(two + "heir x y;heir y x;heir z x;");
        T.fault(two + "heir x y;heir x z;", 3, two.length() + 14);
        T.fault(two + "heir x y;heir x x;", 3, two.length() + 14);
        T.fault(two + "heir x y;heir x", 3, two.length() + 14);
        T.fault(two + "heir x x;", 5, two.length() + 7);
        T.fault(two + "heir z z;", 5, two.length() + 7);
    }

    // "DOGS: at a PLACE (one each)"; "a DOG at the same PLACE (at the first W)"
    private static void dogsOnce() {
        ok("place a;place b;dog a 1;dog b 1;");
        T.fault("place a;place b;dog a 20;dog a 1;", 3, 29);
        T.fault("place a;place b;dog a 20;dog a 0;", 3, 29);
        ok(SIX + "dog a 1;dog b 1;dog c 1;dog d 1;dog e 1;dog f 1;");
    }

    // "wall, fine, seed (at the word), a law of its KIND (at KIND)"
    private static void onceEach() {
        for (String word : new String[] {"wall", "fine", "seed"}) {
            T.fault(word + " 1;" + word + " 1;", 3, 7);
            T.fault(word + " 1; " + word, 3, 8);
            T.fault(word + " 1;" + word + " 1000000;", 3, 7);
            T.fault(word + " 1;wall", word.equals("wall") ? 3 : 1, word.equals("wall") ? 7 : 11);
        }
        T.fault("fine 0;fine 0;", 3, 7);
        T.fault("seed 0;seed 0;", 3, 7);
        ok("wall 1;fine 1;seed 1;law fade 1;law worth 1;");
        T.fault("law fade 1;law fade 1;", 3, 15);
        T.fault("law worth 1;law  worth", 3, 17);
        T.fault("law worth 0;law fade 0;law worth 0;", 3, 27);
    }

    // "4 a PLACE, an OWNER that isn't told ahead (at W)"
    private static void notToldAhead() {
        T.fault("link a b 1;place a;place b;", 4, 5);
        T.fault("place a;link a b 1;place b;", 4, 15);
        T.fault("place a;link b a 1;place b;", 4, 13);
        T.fault("owner x 1;heir x y;owner y 1;", 4, 17);
        T.fault("owner x 1;heir y x;owner y 1;", 4, 15);
        T.fault("owner x 1;noise a x 1 1 1;", 4, 16);
        T.fault("place a;noise a x 1 1 1;", 4, 16);
        T.fault("place a;noise a a 1 1 1;", 4, 16);
        T.fault("place a;claim x a 1 1;", 4, 14);
        T.fault("owner x 1;claim x a 1 1;", 4, 18);
        T.fault("place a;right x a 1 1;", 4, 14);
        T.fault("owner x 1;right x a 1 1;", 4, 18);
        T.fault("place a;task x a 1 1;", 4, 13);
        T.fault("owner x 1;task x a 1 1;", 4, 17);
        T.fault("owner x 1;dog x 1;", 4, 14);
        T.fault("place a;heir a a;", 4, 13);
        T.fault("place ab;dog a 1;", 4, 13);
    }

    // "NOISES .. at a PLACE, by an OWNER (in this order)"; "CLAIMS .. of an OWNER, at a PLACE (in this order)"
    private static void inThisOrder() {
        T.fault(ONE + "noise x a 1 1 1;", 4, ONE.length() + 6);
        T.fault(ONE + "claim a x 1 1;", 4, ONE.length() + 6);
        T.fault(ONE + "right a x 1 1;", 4, ONE.length() + 6);
        T.fault(ONE + "task a x 1 1;", 4, ONE.length() + 5);
    }

    // ---- which fault

    // "FAULTS, the first along the text (of one place the least), with its place"
    private static void theFirstFault() {
        T.fault("wall 0;fine 10;!", 2, 5);
        T.fault("place a;dog b 0;dog", 4, 12);
        T.fault("place a;dog a 0 1", 2, 14);
        T.fault(SIX + "place !", 2, SIX.length());
        T.fault("owner x 1;heir x x 1", 5, 17);
        T.fault("wall 1;wall !", 3, 7);
        T.fault("law fade 1;law fade !", 3, 15);
        // At one place: what can't stand there is that first, however much too much it is.
        T.fault("place 1000000;", 1, 6);
        T.fault("wall 1 1000000;", 1, 7);
        T.fault("law fade 1 10000;", 1, 11);
        T.fault("law fade " + times("(", 8) + "1(", 1, 18);
        String full = "law fade 1" + times("+1", 31) + "+";
        T.fault(full + ";", 1, full.length());
        T.fault(full + ")", 1, full.length());
        T.fault(full + "not 1;", 1, full.length());
        T.fault(full + "and 1;", 1, full.length());
        String signs = "law fade not 1" + times("+1", 31);
        T.fault(signs + " 1;", 1, signs.length() + 1);
        T.fault(signs + ")", 1, signs.length());
        String compared = "law fade not 1<1" + times("+1", 30);
        T.fault(compared + "<1;", 1, compared.length());
        T.fault("wall wall;", 1, 5);
        T.fault("wall 1;fine wall;", 1, 12);
        T.fault(SIX + "dog place;", 1, SIX.length() + 4);
        T.fault("law fade 1;law law fade", 1, 15);
    }

    // ---- feed, text, fault, named

    // "NONE, and none come, if it would have more than 700"
    private static void theTape() {
        OwnedSilence x = new OwnedSilence();
        String part = "place a;            ";
        for (int i = 1; i <= 34; i++) {
            T.due("feed " + i, Told.feed(x, part), 20 * i);
        }
        T.due("the last one that may come", Told.feed(x, "                 !  "), 700);
        T.due("none come", Told.feed(x, part), -1);
        T.due("none come again", x.feed(-1, -1, -1, -1, -1), -1);
        T.due("701 are not there", x.text(701), -2);
        T.due("720 are not there", x.text(720), -2);
        T.due("still full", Told.feed(x, part), -1);
        T.due("all 700", x.text(700), -1);
        T.due("the second line was the first to fail", x.fault(1), 26);
        T.due("empty then", Told.feed(x, part), 20);
        T.due("and is read from its begin", x.text(20), 1);
    }

    // all 700 bytes are read
    private static void theLastByte() {
        String blanks = times(" ", 692);
        T.due("a line at the very end", Told.tell(new OwnedSilence(), blanks + "place a;"), 1);
        T.fault(times(" ", 699) + "!", 1, 699);
        T.fault(times("\n", 700), 0, -1);
        T.fault("fine " + times("0", 694) + "1", 1, 700);
        ok("fine " + times("0", 693) + "1;");
        T.fault("place " + times("a", 694), 1, 6);
    }

    // "Twenty bytes come behind the TAPE, four of each number, the highest first"
    private static void theOrderOfBytes() {
        OwnedSilence x = new OwnedSilence();
        x.feed(0x6f776e65, 0x72206120, 0x313b6f77, 0x6e657220, 0x62203939);
        x.feed(0x393b2020, 0x20202020, 0x20202020, 0x20202020, 0x20202020);
        T.due("lines", x.text(22), 2);
        T.due("the first one", x.owner(0, 0), 1);
        T.due("the second one", x.owner(1, 0), 999);
        x.feed(0x80ffffff, 0, 0, 0, 0);
        T.due("a byte above 127", x.text(1), -1);
        T.due("at its place", x.fault(1), 0);
    }

    // "-2, and the TAPE stays: there are not so many, n is below 0"
    private static void notSoMany() {
        OwnedSilence x = new OwnedSilence();
        T.due("one of an empty TAPE", x.text(1), -2);
        T.due("none of an empty TAPE", x.text(0), 0);
        Told.feed(x, "place a;place b;wall");
        for (int n : new int[] {21, 40, 700, 701, Integer.MAX_VALUE, -1, -20, Integer.MIN_VALUE}) {
            T.due("text(" + n + ")", x.text(n), -2);
        }
        T.due("the TAPE stays", Told.feed(x, " 1;                 "), 40);
        T.due("all of it", x.text(40), 3);
        T.due("it is empty then", x.text(1), -2);
        Told.feed(x, "place a;place b;wall");
        T.due("the first n bytes", x.text(8), 1);
        T.due("the others are gone, too", x.text(1), -2);
        Told.feed(x, "place a;place b;wall");
        T.due("a fault by where it ends", x.text(15), -1);
        T.due("at the length", x.fault(1), 15);
        T.due("empty with a fault, too", x.text(1), -2);
        Told.feed(x, "place a;place b;wall");
        T.due("none of them", x.text(0), 0);
        T.due("nothing is told", x.count(0), 0);
        T.due("and none are left", x.text(1), -2);
    }

    // "Of the latest text() that was not -2, what 0: its FAULT (0), 1: its place (NONE without). NONE for another what."
    private static void theLatestFault() {
        OwnedSilence x = new OwnedSilence();
        T.due("none yet", x.fault(0), 0);
        T.due("no place yet", x.fault(1), -1);
        x.text(1);
        T.due("none behind -2", x.fault(0), 0);
        Told.tell(x, "wall 0;");
        T.due("2", x.fault(0), 2);
        T.due("at 5", x.fault(1), 5);
        x.text(1);
        x.text(-1);
        T.due("2 behind -2", x.fault(0), 2);
        T.due("at 5 behind -2", x.fault(1), 5);
        for (int what : new int[] {-1, 2, Integer.MIN_VALUE, Integer.MAX_VALUE}) {
            T.due("fault(" + what + ")", x.fault(what), -1);
        }
        Told.tell(x, "!");
        T.due("at 0", x.fault(1), 0);
        x.text(0);
        T.due("none any more", x.fault(0), 0);
        T.due("no place any more", x.fault(1), -1);
    }

    // "by its letters, 5 bits each (a is 1; the first one highest of six, 0 behind the last one); NONE: there is none such"
    private static void letters() {
        OwnedSilence x = Told.of("place a;place zzzzzz;owner z 1;owner a 1;");
        T.due("a", x.named(0, 1 << 25), 0);
        T.due("zzzzzz", x.named(0, 26 << 25 | 26 << 20 | 26 << 15 | 26 << 10 | 26 << 5 | 26), 1);
        T.due("owner z", x.named(1, 26 << 25), 0);
        T.due("owner a", x.named(1, 1 << 25), 1);
        T.due("no owner zzzzzz", x.named(1, 26 << 25 | 26 << 20 | 26 << 15 | 26 << 10 | 26 << 5 | 26), -1);
        for (int none : new int[] {0, 1, -1, 1 << 24, 1 << 30, 1 << 25 | 1, 1 << 25 | 1 << 30, 1 << 25 | 1 << 31, 2 << 25}) {
            T.due("named(0, " + none + ")", x.named(0, none), -1);
            T.due("named(1, " + none + ")", x.named(1, none), -1);
        }
        for (int what : new int[] {-1, 2, Integer.MIN_VALUE, Integer.MAX_VALUE}) {
            T.due("named(" + what + ")", x.named(what, 1 << 25), -1);
        }
        T.due("nothing is named 0", new OwnedSilence().named(0, 0), -1);
        T.due("nor an owner", new OwnedSilence().named(1, 0), -1);
        Told.tell(x, "place b;");
        T.due("a of the text before", x.named(0, 1 << 25), -1);
        T.due("an owner of the text before", x.named(1, 1 << 25), -1);
    }

    // "(MINUTE 0, no WALLS, no NOTES, all KNOWN, no IMAGE, nothing to undo then)"; "with a FAULT, all else stays"
    private static void whatATextLeaves() {
        String town = "place a;place b;link a b 1;owner x 5;owner y 5;claim x a 0 0;wall 9;fine 9;noise b y 0 0 1;";
        List<Integer> due = new ArrayList<>();
        OwnedSilence x = Told.of(town);
        x.go(3);
        x.keep();
        x.wall(0, true);
        x.note(0, 0, true);
        x.known(0);
        for (int what = 0; what < 16; what++) {
            due.add(x.count(what));
        }
        T.due("a text with a FAULT", Told.tell(x, "place q;owner q 1;law fade 1;!"), -1);
        for (int what = 0; what < 16; what++) {
            T.due("behind the FAULT, count " + what, x.count(what), due.get(what));
        }
        T.due("behind the FAULT, FAR", x.far(0, 1), 10);
        T.due("behind the FAULT, the name", x.named(0, Told.letters("q")), -1);
        T.due("behind the FAULT, no law", x.law(0, 1, 1, 1), Long.MIN_VALUE);
        T.due("behind the FAULT, what can be undone", x.undo(), 0);
        T.due("behind the FAULT, the IMAGE", x.back(), 3);
        Told.tell(x, town);
        int[] fresh = {2, 1, 2, 1, 1, 0, 0, 0, 0, 0, 0, 0, 0, 0, 10, 95};
        for (int what = 0; what < 16; what++) {
            T.due("behind the TEXT, count " + what, x.count(what), fresh[what]);
        }
        T.due("behind the TEXT, no IMAGE", x.back(), -1);
        T.due("behind the TEXT, nothing to undo", x.undo(), -1);
        x.note(0, 0, true);
        T.due("behind the TEXT, known by all, also those to come", x.count(10), 1);
    }

    // "(.. are the TEXT ..)": nothing is left of the texts before, of those with a FAULT neither
    private static void textsBehindTexts() {
        String all = "place a;place b;place c;link a b 3;link b c 1;owner x 9;owner y 8;heir x y;noise a x 0 9 20;claim y b 0 20;"
                + "right x a 0 5;task x a 3 3;dog a 1;dog b 2;wall 9;fine 9;seed 5;law fade loud-far*2;law worth long*2+who;";
        String[] others = {"", "place a;", "owner x 5;", "place a;place b;link a b 1;owner x 5;owner y 5;noise a x 0 3 3;"
                + "claim y a 0 3;task x a 2 1;"};
        for (String other : others) {
            List<String> fresh = State.of(() -> Told.of(other));
            String[][] ways = {{all}, {all, all}, {all, other}, {all, all + "!"}, {all + "!"}, {all + "!", all}, {all, all, all + "!"}};
            for (String[] way : ways) {
                List<String> behind = State.of(() -> {
                    OwnedSilence x = new OwnedSilence();
                    for (String one : way) {
                        Told.tell(x, one);
                        x.go(7);
                        x.wall(0, true);
                        x.sell(0, 0, 1);
                        x.stop(0);
                        x.note(0, 0, true);
                        x.keep();
                    }
                    Told.tell(x, other);
                    return x;
                });
                T.due("nothing of " + way.length + " texts ahead of " + other + State.difference(fresh, behind),
                        fresh.equals(behind), true);
                T.due("a wall and a fine of texts ahead of " + other, wallAndFine(other, way), wallAndFine(other));
            }
        }
    }

    private static int wallAndFine(String text, String... ahead) {
        OwnedSilence x = new OwnedSilence();
        for (String one : ahead) {
            Told.tell(x, one);
        }
        Told.tell(x, text);
        x.go(1);
        x.wall(0, true);
        return x.count(2) < 2 ? 0 : 100 * x.far(0, 1) + x.owner(1, 0);
    }

    public static void main(String[] args) {
        lettersOfAWord();
        wordsOfTheLanguage();
        blanks();
        tokensThatAreNone();
        digits();
        comparisons();
        oneComparison();
        whereNotStands();
        whatStandsInALaw();
        eachToken();
        boundsOfNumbers();
        boundsOfTimes();
        boundsAreTaken();
        withoutWallAndFine();
        howMany();
        theFullest();
        openOnes();
        openOnesOfAnother();
        knots();
        namesOfAKind();
        linksOfTwo();
        heirsOnce();
        dogsOnce();
        onceEach();
        notToldAhead();
        inThisOrder();
        theFirstFault();
        theTape();
        theLastByte();
        theOrderOfBytes();
        notSoMany();
        theLatestFault();
        letters();
        whatATextLeaves();
        textsBehindTexts();
        T.end();
    }
}
