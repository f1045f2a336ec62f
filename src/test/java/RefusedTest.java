import java.util.ArrayList;
import java.util.List;
import java.util.NoSuchElementException;
import java.util.function.Consumer;
import java.util.function.Supplier;
import java.util.function.ToLongFunction;

/**
 * Behind a refused call all else is as it was; so it is behind a call that only asks. Each is called on an empty
 * object, on one with all there is and on a full one, and all that the object tells is held against its twin's.
 */
public final class RefusedTest {
    private static final Told T = new Told();
    private static final int[] FAR_OFF = {Integer.MIN_VALUE, -2, -1, 48, 1000, Integer.MAX_VALUE};

    private static OwnedSilence empty() {
        return new OwnedSilence();
    }

    /** Some of everything, an IMAGE that is no more as it is, what can be undone, and a TAPE. */
    private static OwnedSilence some() {
        OwnedSilence x = Told.of("place a;place b;place c;link a b 2;link b c 3;link a c 7;owner x 20;owner y 5;owner z 0;"
                + "heir x y;heir y z;noise a x 10 19 4;noise b y 30 35 6;claim y b 12 15;claim x c 0 40;claim z a 5 9;"
                + "right x b 12 12;task x b 5 2;task y a 2 9;dog a 4;dog b 3;fine 2;wall 4;law fade loud-far*1+minute/40;"
                + "law worth long*who+minute;");
        x.wall(2, true);
        x.go(13);
        x.keep();
        x.make(2, 1, 44, 46, 3);
        x.sell(1, 2, 0);
        x.go(1);
        x.make(0, 2, 40, 41, 20);
        x.stop(0);
        x.wall(1, true);
        x.sell(0, 0, 3);
        x.note(1, 12, true);
        x.note(0, 3, false);
        x.note(2, 3, true);
        x.strike(0);
        x.known(3);
        Told.feed(x, "place a;wall 3;owner q 7;;");
        return x;
    }

    /** As much as there may be of NOISES, NOTES, what can be undone, and the TAPE; the DAY is over. */
    private static OwnedSilence full() {
        OwnedSilence x = Told.of("place a;place b;link a b 1;owner x 9;owner y 9;heir x y;heir y x;claim x a 0 47;claim y b 9 9;"
                + "task y b 2 2;" + "noise a y 4 8 3;".repeat(8));
        x.go(48);
        x.keep();
        for (int i = 8; i < 12; i++) {
            x.make(1, 0, i, i + 2, 2);
        }
        for (int i = 0; i < 20; i++) {
            x.wall(0, i % 2 == 0);
        }
        x.stop(11);
        for (int i = 0; i < 12; i++) {
            x.note(0, 4, true);
            x.strike(2 * i);
        }
        Told.feed(x, "fine 2;    ".repeat(63) + "wall 1;");
        return x;
    }

    private static void refused(String call, Supplier<OwnedSilence> maker, ToLongFunction<OwnedSilence> asked, long due) {
        List<String> before = State.of(maker);
        List<String> behind = State.of(() -> {
            OwnedSilence x = maker.get();
            T.due("refused " + call, asked.applyAsLong(x), due);
            return x;
        });
        String difference = State.difference(before, behind);
        if (!difference.isEmpty()) {
            System.out.println("behind " + call + ": " + difference);
        }
        T.due("as it was behind " + call, difference.isEmpty(), true);
    }

    private static void asked(String call, Consumer<OwnedSilence> some) {
        List<Supplier<OwnedSilence>> makers = List.of(RefusedTest::empty, RefusedTest::some, RefusedTest::full);
        for (Supplier<OwnedSilence> maker : makers) {
            refused(call, maker, x -> {
                some.accept(x);
                return 0;
            }, 0);
        }
    }

    private static long bit(boolean is) {
        return is ? 1 : 0;
    }

    // feed beyond 700; text of more than there is, or below 0
    private static void tapes() {
        refused("feed, full", RefusedTest::full, x -> x.feed(1, 2, 3, 4, 5), -1);
        for (int n : new int[] {-1, Integer.MIN_VALUE, 701, Integer.MAX_VALUE}) {
            refused("text " + n, RefusedTest::empty, x -> x.text(n), -2);
            refused("text " + n, RefusedTest::some, x -> x.text(n), -2);
            refused("text " + n, RefusedTest::full, x -> x.text(n), -2);
        }
        refused("text 41", RefusedTest::some, x -> x.text(41), -2);
        refused("text 1, empty", RefusedTest::empty, x -> x.text(1), -2);
    }

    // "NONE with a FAULT, all else stays"
    private static void faults() {
        String[] texts = {"!", "place a;owner a 1;claim a a 0 0;dog a 1;law fade 1;law worth 1;wall 1;fine 1;;", "wall 0;",
            "place a;place a;", "place", "link a b 1;", "place q;link q q 1;"};
        for (String text : texts) {
            for (Supplier<OwnedSilence> maker : List.<Supplier<OwnedSilence>>of(RefusedTest::empty, RefusedTest::some, RefusedTest::full)) {
                Supplier<OwnedSilence> none = () -> {
                    OwnedSilence x = maker.get();
                    emptyTape(x);
                    return x;
                };
                List<String> before = allElse(State.of(none));
                List<String> behind = allElse(State.of(() -> {
                    OwnedSilence x = none.get();
                    T.due("text " + text, Told.tell(x, text), -1);
                    return x;
                }));
                T.due("all else behind " + text + State.difference(before, behind), before.equals(behind), true);
            }
        }
    }

    /** Makes the TAPE empty by a FAULT. */
    private static void emptyTape(OwnedSilence x) {
        x.feed(-1, 0, 0, 0, 0);
        T.due("a FAULT in the first five bytes", x.text(5), -1);
    }

    private static List<String> allElse(List<String> told) {
        List<String> rest = new ArrayList<>();
        for (String one : told) {
            if (!one.startsWith("fault") && !one.startsWith("place ")) {
                rest.add(one);
            }
        }
        return rest;
    }

    // make: each argument beyond its bounds, 12 that are there
    private static void makes() {
        int[] good = {1, 1, 20, 30, 5};
        int[] most = {2, 2, 47, 47, 20};
        for (int which = 0; which < 5; which++) {
            for (int none : Told.besides(most[which])) {
                int[] a = good.clone();
                a[which] = none;
                refused("make " + which + " " + none, RefusedTest::some, x -> x.make(a[0], a[1], a[2], a[3], a[4]), -1);
            }
        }
        refused("make, LOUD 0", RefusedTest::some, x -> x.make(0, 0, 0, 0, 0), -1);
        refused("make, to below from", RefusedTest::some, x -> x.make(0, 0, 9, 8, 1), -1);
        refused("make, 12 there", RefusedTest::full, x -> x.make(0, 0, 0, 0, 1), -1);
        refused("make, empty", RefusedTest::empty, x -> x.make(0, 0, 0, 0, 1), -1);
    }

    // stop, wall, sell: no such ones, it is so
    private static void changes() {
        for (int none : FAR_OFF) {
            refused("stop " + none, RefusedTest::some, x -> bit(x.stop(none)), 0);
            refused("wall " + none, RefusedTest::some, x -> bit(x.wall(none, true)), 0);
            refused("no wall " + none, RefusedTest::full, x -> bit(x.wall(none, false)), 0);
            refused("sell " + none, RefusedTest::some, x -> bit(x.sell(none, 1, 0)), 0);
            refused("sell to " + none, RefusedTest::some, x -> bit(x.sell(0, none, 0)), 0);
            refused("sell for " + none, RefusedTest::some, x -> bit(x.sell(0, 2, none == 48 ? 1001 : none)), 0);
        }
        refused("stop 4", RefusedTest::some, x -> bit(x.stop(4)), 0);
        refused("stop, it is", RefusedTest::some, x -> bit(x.stop(0)), 0);
        refused("stop, it is, full", RefusedTest::full, x -> bit(x.stop(11)), 0);
        refused("wall 3", RefusedTest::some, x -> bit(x.wall(3, true)), 0);
        refused("wall, it has one", RefusedTest::some, x -> bit(x.wall(1, true)), 0);
        refused("wall, it has none", RefusedTest::some, x -> bit(x.wall(0, false)), 0);
        refused("sell 3", RefusedTest::some, x -> bit(x.sell(3, 0, 0)), 0);
        refused("sell to 3", RefusedTest::some, x -> bit(x.sell(0, 3, 0)), 0);
        refused("sell, theirs", RefusedTest::some, x -> bit(x.sell(1, 2, 0)), 0);
        refused("sell, no coin", RefusedTest::some, x -> bit(x.sell(1, 0, 999)), 0);
        refused("sell for 1000", RefusedTest::some, x -> bit(x.sell(1, 0, 1000)), 0);
        refused("sell, empty", RefusedTest::empty, x -> bit(x.sell(0, 0, 0)), 0);
        refused("stop, empty", RefusedTest::empty, x -> bit(x.stop(0)), 0);
        refused("wall, empty", RefusedTest::empty, x -> bit(x.wall(0, true)), 0);
    }

    // go, note, strike, known, undo, back
    private static void others() {
        for (int none : new int[] {-1, 35, 48, 49, Integer.MIN_VALUE, Integer.MAX_VALUE}) {
            refused("go " + none, RefusedTest::some, x -> x.go(none), -1);
        }
        refused("go 0", RefusedTest::some, x -> x.go(0), 14);
        refused("go 1, over", RefusedTest::full, x -> x.go(1), -1);
        refused("go 49, empty", RefusedTest::empty, x -> x.go(49), -1);
        for (int none : FAR_OFF) {
            refused("note at " + none, RefusedTest::some, x -> x.note(none, 0, true), -1);
            refused("note then " + none, RefusedTest::some, x -> x.note(0, none, true), -1);
            refused("strike " + none, RefusedTest::some, x -> x.strike(none), -1);
        }
        for (int none : new int[] {-2, 5, 25, Integer.MIN_VALUE, Integer.MAX_VALUE}) {
            refused("known " + none, RefusedTest::some, x -> bit(x.known(none)), 0);
            refused("known " + (none == 5 ? 26 : none), RefusedTest::full, x -> bit(x.known(none == 5 ? 26 : none)), 0);
        }
        refused("note at 3", RefusedTest::some, x -> x.note(3, 0, true), -1);
        refused("strike 4", RefusedTest::some, x -> x.strike(4), -1);
        refused("note, 24 there", RefusedTest::full, x -> x.note(0, 0, true), -1);
        refused("strike, 24 there", RefusedTest::full, x -> x.strike(0), -1);
        refused("note, empty", RefusedTest::empty, x -> x.note(0, 0, true), -1);
        refused("strike, empty", RefusedTest::empty, x -> x.strike(0), -1);
        refused("known 1, empty", RefusedTest::empty, x -> bit(x.known(1)), 0);
        refused("undo, none", RefusedTest::empty, x -> x.undo(), -1);
        refused("back, none", RefusedTest::empty, x -> x.back(), -1);
        Supplier<OwnedSilence> gone = () -> {
            OwnedSilence x = some();
            x.go(1);
            return x;
        };
        refused("undo, a minute went by", gone, x -> x.undo(), -1);
        Supplier<OwnedSilence> unkept = () -> {
            OwnedSilence x = Told.of("place a;owner x 1;noise a x 0 0 1;");
            x.stop(0);
            return x;
        };
        refused("back, none kept", unkept, x -> x.back(), -1);
    }

    // what only asks changes nothing, whatever it is asked
    private static void asking() {
        int[] odd = {Integer.MIN_VALUE, -1, 0, 1, 2, 3, 5, 11, 47, 48, Integer.MAX_VALUE};
        asked("fault, named, count", x -> {
            for (int a : odd) {
                x.fault(a);
                x.count(a);
                x.named(a, 1 << 25);
            }
        });
        asked("owner", x -> {
            for (int a : odd) {
                for (int b : new int[] {-1, 0, 2, 4, 5}) {
                    owner(x, a, b);
                }
            }
        });
        asked("noise, claim, link, far, law", x -> {
            for (int a : odd) {
                x.noise(a, 0);
                x.claim(a, 0);
                x.link(a, 0);
                x.far(a, 1);
                x.far(0, a);
                x.law(0, a, 1, 1);
                x.law(1, 1, a, 1);
            }
        });
        asked("heard, hush, whose, spans, span, pieces, piece", x -> {
            for (int a : odd) {
                x.heard(a, 5);
                x.heard(0, a);
                x.hush(a);
                x.whose(a, 5);
                x.whose(0, a);
                x.span(a, 0);
                x.piece(a, 0);
            }
            x.spans();
            x.pieces();
        });
        asked("share, part, leaves, plan, planned", x -> {
            for (int a : odd) {
                x.share(a, 0);
                x.part(a, 0);
                x.leaves(a);
                x.share(0, a);
                x.part(0, a);
                x.planned(a, 0);
            }
            x.plan();
        });
        asked("walls, bark, thieves, thief", x -> {
            for (int a : odd) {
                x.walls(a, 1);
                x.walls(0, a);
                x.bark(a, 0);
                x.bark(1, a);
                x.thief(a, 0);
            }
            x.thieves();
        });
        asked("left, rests, rest, year", x -> {
            for (int a : odd) {
                x.left(a, 0);
                x.left(a, 1);
                x.left(0, a);
                x.rests(a, 1, 1);
                x.rest(9, 1, 1, a);
                x.year(a, 20);
                x.year(1, a);
            }
        });
        for (int what = -1; what <= 6; what++) {
            int tried = what;
            asked("tried " + what, x -> {
                for (int a : odd) {
                    x.tried(tried, a);
                }
            });
        }
    }

    private static void owner(OwnedSilence x, int owner, int what) {
        try {
            x.owner(owner, what);
        } catch (IndexOutOfBoundsException | NoSuchElementException e) {
            // As it should, with such a what or owner.
        }
    }

    public static void main(String[] args) {
        tapes();
        faults();
        makes();
        changes();
        others();
        asking();
        T.end();
    }
}
