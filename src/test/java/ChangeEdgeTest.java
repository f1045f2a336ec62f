import java.util.List;

/**
 * The bounds of what calls change: noises made and stopped, walls, claims sold, minutes gone by, what is undone,
 * images, counts (promises 22 to 26 and 41 to 44): above each test stands the sentence that names the bound.
 */
public final class ChangeEdgeTest {
    private static final Told T = new Told();
    private static final String STREET = "place a;place b;place c;link a b 2;link b c 3;owner x 20;owner y 5;heir x y;"
            + "noise a x 10 19 4;claim y b 12 15;claim x c 0 47;";

    // ---- make

    // "from a MINUTE to one (not below it), LOUD 1 .. 20: its number; NONE: no such ones"
    private static void whatMayBeMade() {
        int[][] some = {{0, 0, 0, 0, 1}, {2, 1, 47, 47, 20}, {1, 0, 0, 47, 20}, {1, 1, 46, 47, 1}};
        OwnedSilence x = Told.of(STREET);
        for (int i = 0; i < some.length; i++) {
            int[] one = some[i];
            T.due("make " + i, x.make(one[0], one[1], one[2], one[3], one[4]), 1 + i);
            for (int what = 0; what < 5; what++) {
                T.due("made " + i + " " + what, x.noise(1 + i, what), one[what]);
            }
            T.due("not stopped " + i, x.noise(1 + i, 5), 0);
        }
        int[] most = {2, 1, 47, 47, 20};
        for (int which = 0; which < 5; which++) {
            int[] args = {1, 1, 20, 30, 5};
            for (int none : Told.besides(most[which])) {
                args[which] = none;
                T.due("argument " + which + " " + none, x.make(args[0], args[1], args[2], args[3], args[4]), -1);
            }
        }
        T.due("LOUD 0", x.make(0, 0, 0, 0, 0), -1);
        T.due("LOUD 21", x.make(0, 0, 0, 0, 21), -1);
        T.due("to below from", x.make(0, 0, 20, 19, 5), -1);
        T.due("to 0 below from 47", x.make(0, 0, 47, 0, 5), -1);
        T.due("to 48", x.make(0, 0, 47, 48, 5), -1);
        T.due("from 48 to 48", x.make(0, 0, 48, 48, 5), -1);
        T.due("none of them made", x.count(3), 5);
        T.due("nor to be undone", x.count(11), 4);
        T.due("no places", Told.of("owner x 1;").make(0, 0, 0, 0, 1), -1);
        T.due("no owners", Told.of("place a;").make(0, 0, 0, 0, 1), -1);
        T.due("neither", new OwnedSilence().make(0, 0, 0, 0, 1), -1);
    }

    // "12 are there (stopped ones, too)"
    private static void twelveNoises() {
        for (int told = 0; told <= 8; told++) {
            OwnedSilence x = Told.of("place a;owner x 1;" + "noise a x 5 5 1;".repeat(told));
            for (int i = told; i < 12; i++) {
                T.due("number " + i, x.make(0, 0, i, i, 1), i);
            }
            T.due("a 13th", x.make(0, 0, 0, 0, 1), -1);
            T.due("twelve", x.count(3), 12);
            T.due("the last is heard", x.heard(0, 11), 11);
            T.due("the last is stopped", x.stop(11), true);
            T.due("the first is stopped", x.stop(0), true);
            T.due("stopped ones, too", x.make(0, 0, 0, 0, 1), -1);
            T.due("twelve, stopped ones, too", x.count(3), 12);
            x.undo();
            x.undo();
            T.due("one less", x.undo(), 12 - told - 1);
            T.due("so one may come", x.make(0, 0, 47, 47, 1), 11);
            T.due("and is the last", x.make(0, 0, 47, 47, 1), -1);
            T.due("heard in its place", x.heard(0, 47), 11);
            T.due("not the one before", x.heard(0, 11), -2);
        }
    }

    // ---- stop, wall

    // "A NOISE is stopped (it isn't there all DAY): true; false: no such one, it is."
    private static void stopped() {
        OwnedSilence x = Told.of(STREET);
        x.make(2, 1, 0, 0, 1);
        for (int none : Told.besides(1)) {
            T.due("stop " + none, x.stop(none), false);
        }
        x.go(15);
        T.due("the first", x.stop(0), true);
        T.due("it is", x.stop(0), false);
        T.due("not at any minute", x.count(15), 143);
        T.due("the last", x.stop(1), true);
        T.due("that is, too", x.stop(1), false);
        T.due("no noise at all", x.count(15), 144);
        T.due("nor TRESPASS", x.count(13), 0);
        T.due("none of an empty TEXT", new OwnedSilence().stop(0), false);
    }

    // "A LINK has a WALL, or has none: true; false: no such one, it is so."
    private static void walled() {
        OwnedSilence x = Told.of(STREET);
        for (int none : Told.besides(1)) {
            T.due("wall " + none, x.wall(none, true), false);
            T.due("no wall " + none, x.wall(none, false), false);
        }
        for (int link = 0; link < 2; link++) {
            T.due("has none", x.wall(link, false), false);
            T.due("has one", x.wall(link, true), true);
            T.due("has one already", x.wall(link, true), false);
            T.due("so many", x.count(12), 1 + link);
            T.due("told", x.link(link, 3), 1);
        }
        T.due("none again", x.wall(1, false), true);
        T.due("none already", x.wall(1, false), false);
        T.due("told, too", x.link(1, 3), 0);
        T.due("the other stays", x.link(0, 3), 1);
        T.due("none of an empty TEXT", new OwnedSilence().wall(0, true), false);
    }

    // ---- sell

    // "for a price 0 .. 999: true; false: no such ones, it is theirs, they haven't so much COIN."
    private static void sold() {
        String town = "place a;owner x 0;owner y 999;owner z 998;claim x a 0 0;claim x a 1 1;";
        OwnedSilence x = Told.of(town);
        for (int none : Told.besides(1)) {
            T.due("claim " + none, x.sell(none, 1, 0), false);
        }
        for (int none : Told.besides(2)) {
            T.due("to " + none, x.sell(0, none, 0), false);
        }
        for (int none : Told.besides(999)) {
            T.due("for " + none, x.sell(0, 1, none), false);
        }
        T.due("theirs", x.sell(0, 0, 0), false);
        T.due("one more than they have", x.sell(0, 2, 999), false);
        T.due("nothing paid", x.count(14), 1997);
        T.due("not sold", x.claim(0, 0), 0);
        T.due("all they have", x.sell(0, 2, 998), true);
        T.due("none left", x.owner(2, 0), 0);
        T.due("had", x.owner(0, 0), 998);
        T.due("sold", x.claim(0, 0), 2);
        T.due("the other isn't", x.claim(1, 0), 0);
        T.due("999", x.sell(1, 1, 999), true);
        T.due("more than 999 may be had", x.owner(0, 0), 1997);
        T.due("for nothing", x.sell(0, 1, 0), true);
        T.due("for nothing, of nothing", x.sell(1, 2, 0), true);
        T.due("for one, of nothing", x.sell(0, 2, 1), false);
        T.due("1000 isn't a price, though it is there", x.sell(0, 0, 1000), false);
        T.due("none of an empty TEXT", new OwnedSilence().sell(0, 0, 0), false);
        T.due("no claims", Told.of("owner x 1;owner y 1;").sell(0, 1, 0), false);
    }

    // ---- go

    // "So many MINUTES (0 .. 48) go by: which MINUTE it is; NONE, and none does: no such number, the DAY has not so many
    // left."; "Behind MINUTE 47 the DAY is over (48)."
    private static void minutesGone() {
        OwnedSilence all = Told.of(STREET);
        for (int none : Told.besides(48)) {
            T.due("go " + none, all.go(none), -1);
        }
        T.due("none yet", all.count(8), 0);
        T.due("48", all.go(48), 48);
        T.due("over", all.count(8), 48);
        T.due("one more", all.go(1), -1);
        T.due("48 more", all.go(48), -1);
        T.due("none more", all.go(0), 48);
        T.due("still over", all.count(8), 48);
        for (int gone = 0; gone <= 48; gone++) {
            OwnedSilence x = Told.of(STREET);
            T.due("go " + gone, x.go(gone), gone);
            T.due("one too many behind " + gone, x.go(49 - gone), -1);
            T.due("so it is " + gone, x.go(0), gone);
            T.due("the rest behind " + gone, x.go(48 - gone), 48);
        }
        OwnedSilence one = new OwnedSilence();
        for (int gone = 1; gone <= 48; gone++) {
            T.due("minute by minute", one.go(1), gone);
        }
        T.due("the 49th", one.go(1), -1);
    }

    // "A MINUTE goes by: TRESPASSES of it, by PLACES, then NOISES: who makes it pays the fine to whom it is CLAIMED by, as
    // far as COIN goes."
    private static void fines() {
        String town = "place a;owner x 10;owner y 0;noise a x 0 47 1;claim y a ";
        int[][] claimed = {{0, 0}, {47, 47}, {10, 12}};
        for (int[] one : claimed) {
            OwnedSilence x = Told.of(town + one[0] + " " + one[1] + ";fine 2;");
            x.go(one[0]);
            T.due("ahead of it", x.owner(0, 0), 10);
            x.go(1);
            T.due("the first one", x.owner(0, 0), 8);
            x.go(one[1] - one[0]);
            int due = 10 - 2 * (one[1] - one[0] + 1);
            T.due("to the last one", x.owner(0, 0), due);
            T.due("had", x.owner(1, 0), 10 - due);
            x.go(48 - x.count(8));
            T.due("behind it", x.owner(0, 0), due);
        }
        OwnedSilence just = Told.of(town + "0 47;fine 5;");
        just.go(2);
        T.due("just enough", just.owner(0, 0), 0);
        just.go(46);
        T.due("never less than none", just.owner(0, 0), 0);
        T.due("all of it had", just.owner(1, 0), 10);
        OwnedSilence odd = Told.of(town + "0 47;fine 9;");
        odd.go(1);
        T.due("nine", odd.owner(0, 0), 1);
        odd.go(1);
        T.due("as far as it goes", odd.owner(1, 0), 10);
        OwnedSilence none = Told.of(town + "0 47;fine 0;");
        T.due("all at once", none.go(48), 48);
        T.due("a fine of nothing", none.owner(0, 0), 10);
    }

    // "by PLACES, then NOISES": who has coin for one alone pays the first one; what comes in may go out at once
    private static void finesInOrder() {
        String two = "place a;place b;owner x 1;owner y 0;owner z 0;claim y a 0 0;claim z b 0 0;";
        OwnedSilence places = Told.of(two + "noise b x 0 0 1;noise a x 0 0 1;");
        places.go(1);
        T.due("the first place, whatever the noises", places.owner(1, 0), 1);
        OwnedSilence noises = Told.of("place a;place b;link a b 1;owner x 1;owner y 0;owner z 0;claim x a 0 0;claim z b 0 0;"
                + "noise b y 0 0 2;noise b x 0 0 1;");
        // At a y owes x, but has nothing; at b y owes z, then x does.
        noises.go(1);
        T.due("y has nothing", noises.owner(1, 0), 0);
        T.due("x pays z", noises.owner(2, 0), 1);
        OwnedSilence chain = Told.of("place a;place b;owner x 1;owner y 0;owner z 0;claim y a 0 0;claim z b 0 0;noise a x 0 0 1;"
                + "noise b y 0 0 1;");
        chain.go(1);
        T.due("y pays what has come in", chain.owner(2, 0), 1);
        OwnedSilence back = Told.of("place a;place b;owner x 1;owner y 0;owner z 0;claim y b 0 0;claim z a 0 0;noise b x 0 0 1;"
                + "noise a y 0 0 1;");
        back.go(1);
        T.due("y had it too late", back.owner(1, 0), 1);
        OwnedSilence same = Told.of("place a;owner x 1;owner y 0;owner z 1;claim z a 0 0;noise a y 0 0 1;noise a x 0 0 1;");
        same.sell(0, 1, 0);
        same.go(1);
        T.due("sold ahead of the minute", same.owner(1, 0), 1);
    }

    // ---- undo

    // "The latest is undone: how many are left; NONE: none."; "the latest first (20 at most)"
    private static void twentyAtMost() {
        OwnedSilence x = Told.of(STREET);
        T.due("none", x.undo(), -1);
        for (int i = 1; i <= 20; i++) {
            x.wall(0, i % 2 == 1);
            T.due("so many", x.count(11), i);
        }
        T.due("a 21st", x.wall(1, true), true);
        T.due("twenty of them", x.count(11), 20);
        for (int left = 19; left >= 0; left--) {
            T.due("undone", x.undo(), left);
            T.due("link 1", x.link(1, 3), 0);
            T.due("link 0", x.link(0, 3), left % 2 == 0 ? 1 : 0);
        }
        T.due("no more", x.undo(), -1);
        T.due("the first one stays", x.link(0, 3), 1);
        T.due("none of an empty TEXT", new OwnedSilence().undo(), -1);
    }

    // the oldest ones go, whatever they were, and all others are undone rightly
    private static void beyondTwenty() {
        OwnedSilence x = Told.of("place a;place b;link a b 1;owner x 9;owner y 9;claim x a 0 0;");
        x.sell(0, 1, 3);
        x.make(0, 0, 1, 1, 1);
        x.stop(0);
        for (int i = 0; i < 19; i++) {
            x.wall(0, i % 2 == 0);
        }
        T.due("full", x.count(11), 20);
        for (int left = 19; left >= 1; left--) {
            x.undo();
        }
        T.due("the stop is left", x.count(11), 1);
        T.due("it is stopped", x.noise(0, 5), 1);
        T.due("undone", x.undo(), 0);
        T.due("it isn't any more", x.noise(0, 5), 0);
        T.due("no more", x.undo(), -1);
        T.due("what was made stays", x.count(3), 1);
        T.due("what was sold stays", x.claim(0, 0), 1);
        T.due("what was paid stays", x.owner(0, 0), 12);
    }

    // "NOISES made, stopped, WALLS, CLAIMS sold by call can be undone": each of them alone, and nothing else
    private static void whatCanBeUndone() {
        OwnedSilence x = Told.of(STREET);
        x.make(2, 1, 47, 47, 20);
        T.due("make", x.undo(), 0);
        T.due("as ahead, noises", x.count(3), 1);
        T.due("as ahead, silence", x.count(15), 124);
        x.stop(0);
        T.due("stop", x.undo(), 0);
        T.due("as ahead, not stopped", x.noise(0, 5), 0);
        T.due("as ahead, heard", x.heard(1, 12), 0);
        x.wall(0, true);
        T.due("wall", x.undo(), 0);
        T.due("as ahead, far", x.far(0, 1), 2);
        T.due("as ahead, pieces", x.pieces(), 1);
        x.sell(0, 0, 20);
        T.due("sell", x.undo(), 0);
        T.due("as ahead, the claim", x.claim(0, 0), 1);
        T.due("as ahead, coin", x.owner(0, 0) * 100 + x.owner(1, 0), 2005);
        T.due("as ahead, TRESPASS", x.count(13), 4);
        x.wall(1, true);
        x.wall(1, false);
        T.due("no wall", x.undo(), 1);
        T.due("one again", x.link(1, 3), 1);
        x.undo();
        x.note(0, 0, true);
        x.strike(0);
        x.known(0);
        x.keep();
        x.go(0);
        T.due("nothing of a note, a strike, known, keep, go(0)", x.undo(), -1);
        T.due("the notes stay", x.count(9), 2);
        x.make(0, 0, 0, 0, 0);
        x.stop(1);
        x.wall(0, false);
        x.sell(0, 1, 0);
        T.due("nothing of what was refused", x.undo(), -1);
    }

    // "if no MINUTE went by since"
    private static void noMinuteSince() {
        OwnedSilence x = Told.of(STREET);
        x.wall(0, true);
        x.go(0);
        x.go(-1);
        x.go(49);
        T.due("none went by", x.count(11), 1);
        x.go(1);
        T.due("one did", x.count(11), 0);
        T.due("none to undo", x.undo(), -1);
        T.due("the wall stays", x.link(0, 3), 1);
        x.go(47);
        x.wall(0, false);
        x.go(1);
        T.due("the day was over", x.count(11), 1);
        T.due("so it can be undone", x.undo(), 0);
    }

    // ---- images

    // "An IMAGE is kept (in place of one ahead): which MINUTE it is."; "All that it keeps is as in the IMAGE (nothing to undo
    // then): which MINUTE it is; NONE: there is none."
    private static void images() {
        OwnedSilence x = Told.of(STREET);
        T.due("none", x.back(), -1);
        T.due("at 0", x.keep(), 0);
        x.go(48);
        T.due("at 48", x.keep(), 48);
        T.due("in place of the one ahead", x.back(), 48);
        T.due("as often as one likes", x.back(), 48);
        T.due("none of an empty TEXT", new OwnedSilence().back(), -1);
        T.due("kept of an empty TEXT", new OwnedSilence().keep(), 0);
        OwnedSilence y = Told.of(STREET);
        y.wall(0, true);
        y.keep();
        T.due("keep leaves what can be undone", y.count(11), 1);
        T.due("undone behind the IMAGE", y.undo(), 0);
        y.wall(1, true);
        T.due("back", y.back(), 0);
        T.due("the wall of the IMAGE", y.link(0, 3), 1);
        T.due("not the one since", y.link(1, 3), 0);
        T.due("nothing to undo", y.undo(), -1);
    }

    // "An IMAGE keeps all but NOTES, by how many it is KNOWN, the TAPE and the FAULT."
    private static void whatAnImageKeeps() {
        OwnedSilence x = Told.of(STREET);
        x.keep();
        x.make(1, 1, 0, 0, 5);
        x.stop(0);
        x.wall(1, true);
        x.sell(0, 0, 7);
        x.go(1);
        x.note(0, 0, true);
        x.note(0, 1, true);
        x.known(1);
        Told.tell(x, "!");
        Told.feed(x, "fine 1;");
        T.due("back", x.back(), 0);
        int[] due = {3, 2, 2, 1, 2, 0, 0, 0, 0, 2, 1, 0, 0, 4, 25, 124};
        for (int what = 0; what < 16; what++) {
            T.due("count " + what, x.count(what), due[what]);
        }
        T.due("the claim", x.claim(0, 0), 1);
        T.due("the coin", x.owner(0, 0), 20);
        T.due("not stopped", x.noise(0, 5), 0);
        T.due("the FAULT stays", x.fault(0), 1);
        T.due("the TAPE stays", x.text(7), 1);
        T.due("the FAULT is that of the new TEXT", x.fault(0), 0);
        T.due("which has no IMAGE", x.back(), -1);
    }

    // the same, held against all that can be asked
    private static void allOfAnImage() {
        String all = STREET + "noise b y 30 31 5;claim y a 12 14;right x a 12 13;task x b 3 3;task y c 2 1;dog a 4;dog b 9;fine 3;wall 8;"
                + "law fade loud-far*2+minute/30;law worth long*who+many*9;";
        for (int gone : new int[] {0, 12}) {
            List<String> kept = State.of(() -> kept(all, gone));
            List<String> behind = State.of(() -> {
                OwnedSilence x = kept(all, gone);
                x.wall(1, false);
                x.wall(0, true);
                x.make(2, 0, 5, 25, 9);
                x.stop(0);
                x.sell(1, 1, 2);
                x.go(3);
                x.back();
                return x;
            });
            T.due("all of an image at " + gone + State.difference(kept, behind), kept.equals(behind), true);
        }
        OwnedSilence x = kept(all, 12);
        x.back();
        x.go(3);
        // At 12, 13 x has a right; at 14 x pays 3.
        T.due("the fine of an image", x.owner(1, 0), 8);
        x.wall(0, true);
        T.due("the wall of an image", x.far(0, 1), 10);
    }

    private static OwnedSilence kept(String text, int gone) {
        OwnedSilence x = Told.of(text);
        x.wall(1, true);
        x.keep();
        x.back();
        x.go(gone);
        x.keep();
        return x;
    }

    // ---- count

    // "NONE for another what."; each what of an empty TEXT, of no OWNERS, of no PLACES
    private static void counts() {
        OwnedSilence none = new OwnedSilence();
        OwnedSilence place = Told.of("place a;");
        OwnedSilence owner = Told.of("owner x 7;");
        for (int what = 0; what < 16; what++) {
            T.due("empty " + what, none.count(what), 0);
            T.due("a place " + what, place.count(what), what == 0 ? 1 : what == 15 ? 48 : 0);
            T.due("an owner " + what, owner.count(what), what == 2 ? 1 : what == 14 ? 7 : 0);
        }
        for (int what : Told.besides(15)) {
            T.due("count " + what, place.count(what), -1);
        }
        OwnedSilence most = Told.of("place a;place b;place c;place d;place e;place f;");
        T.due("all there may be", most.count(15), 288);
        OwnedSilence loud = Told.of("place a;owner x 1;owner y 1;claim y a 0 47;" + "noise a x 0 47 1;".repeat(8));
        T.due("TRESPASSES", loud.count(13), 8 * 48);
        T.due("no SILENT MINUTES", loud.count(15), 0);
    }

    // "An object is used for at most 512 calls": the last of them still answers
    private static void theLastCall() {
        OwnedSilence x = new OwnedSilence();
        for (int i = 0; i < 510; i++) {
            x.go(i % 2 == 0 ? 0 : -1);
        }
        T.due("the 511th", x.go(48), 48);
        T.due("the 512th", x.count(8), 48);
        OwnedSilence y = Told.of(STREET);
        for (int i = 0; i < 500; i++) {
            y.wall(i % 2, i % 4 < 2);
        }
        T.due("walls", y.count(12), 0);
        T.due("twenty to undo", y.count(11), 20);
    }

    public static void main(String[] args) {
        whatMayBeMade();
        twelveNoises();
        stopped();
        walled();
        sold();
        minutesGone();
        fines();
        finesInOrder();
        twentyAtMost();
        beyondTwenty();
        whatCanBeUndone();
        noMinuteSince();
        images();
        whatAnImageKeeps();
        allOfAnImage();
        counts();
        theLastCall();
        T.end();
    }
}
