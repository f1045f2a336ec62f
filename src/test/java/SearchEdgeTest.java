/**
 * The bounds of what is searched and tried: plans, walls, dogs, notes and thieves, heirs, waits, years, trials
 * (promises 27 to 40): above each test stands the sentence of the document that names the bound.
 */
public final class SearchEdgeTest {
    private static final Told T = new Told();
    private static final String TOWN = "place a;place b;link a b 4;owner x 9;owner y 9;";
    private static final String STREET = "place a;place b;place c;link a b 2;link b c 3;owner x 20;owner y 5;heir x y;"
            + "noise a x 10 19 4;claim y b 12 15;claim x c 0 47;";

    // ---- plan

    private static void plan(String text, int end, int... starts) {
        OwnedSilence x = Told.of(text);
        T.due("plan of " + text, x.plan(), end);
        for (int k = 0; k < starts.length; k++) {
            T.due("planned " + k + " of " + text, x.planned(k, 0) * 100 + x.planned(k, 1), starts[k]);
        }
        T.due("no more planned of " + text, x.planned(starts.length, 0), -2);
        T.due("nor when, of " + text, x.planned(starts.length, 1), -2);
    }

    // "each begins as early as can be (from MINUTE 0 on, no later than it ends at 47)"
    private static void withinTheDay() {
        plan(TOWN + "task x a 1 1;", 0, 0);
        plan(TOWN + "task x a 12 1;", 11, 0);
        plan(TOWN + "claim y a 0 46;task x a 1 1;", 47, 47);
        plan(TOWN + "claim y a 0 47;task x a 1 1;", -2);
        plan(TOWN + "claim y a 0 35;task x a 12 1;", 47, 36);
        plan(TOWN + "claim y a 0 36;task x a 12 1;", -2);
        plan(TOWN + "claim y a 0 35;task x a 11 1;", 46, 36);
        plan(TOWN + "claim y a 1 47;task x a 1 1;", 0, 0);
        plan(TOWN + "claim y a 1 47;task x a 2 1;", -2);
        plan(TOWN + "claim y a 0 9;claim y a 15 47;task x a 5 1;", 14, 10);
        plan(TOWN + "claim y a 0 9;claim y a 15 47;task x a 6 1;", -2);
        plan(TOWN + "claim y a 5 5;task x a 5 1;", 4, 0);
        plan(TOWN + "claim y a 5 5;task x a 6 1;", 11, 6);
        OwnedSilence late = Told.of(TOWN + "task x a 3 1;");
        late.go(48);
        T.due("from MINUTE 0 on, whichever it is", late.plan(), 2);
    }

    // "its OWNER does none of the TASKS ahead in it at any of these MINUTES": four of twelve fill the DAY
    private static void oneAtATime() {
        String four = "task x a 12 1;task x b 12 1;task x a 12 1;task x b 12 1;";
        plan(TOWN + four, 47, 0, 112, 224, 336);
        plan(TOWN + "claim y a 0 0;" + four, 47, 100, 12, 224, 336);
        plan(TOWN + "claim y a 0 0;claim y b 0 0;" + four, -2);
        plan(TOWN + "task x a 12 1;task y b 12 1;task x b 12 1;task y a 12 1;", 23, 0, 100, 212, 312);
        plan(TOWN + "task x a 1 1;task x a 1 1;", 1, 0, 101);
        // The second fits into the gap ahead of the first.
        plan(TOWN + "claim y a 0 2;task x a 5 1;task x b 3 1;", 7, 3, 100);
        plan(TOWN + "claim y a 0 2;task x a 5 1;task x b 4 1;", 8, 100, 4);
    }

    // "the order by which the last end is earliest, of several the first by numbers"
    private static void theBestOrder() {
        String places = "place a;place b;place c;place d;owner x 0;owner y 0;";
        String tasks = "task x a 3 1;task x b 3 1;task x c 3 1;task x d 3 1;";
        plan(places + "claim y d 3 47;claim y c 6 47;claim y b 9 47;claim y a 12 47;" + tasks, 11, 300, 203, 106, 9);
        plan(places + "claim y a 3 47;claim y b 6 47;claim y c 9 47;claim y d 12 47;" + tasks, 11, 0, 103, 206, 309);
        plan(places + "claim y d 3 47;" + tasks, 11, 300, 3, 106, 209);
        plan(places + "claim y c 3 47;claim y b 6 47;" + tasks, 11, 200, 103, 6, 309);
        plan(places + "claim y d 2 47;" + tasks, -2);
        plan(places + tasks, 11, 0, 103, 206, 309);
    }

    // "so that it is no TRESPASS anywhere"; "(CLAIMS, RIGHTS, WALLS as they are; a TASK as a NOISE of its own)"
    private static void noTrespassAnywhere() {
        plan(TOWN + "claim y b 0 9;task x a 1 4;", 0, 0);
        plan(TOWN + "claim y b 0 9;task x a 1 5;", 10, 10);
        plan(TOWN + "claim x b 0 9;claim y b 0 19;task x a 1 5;", 0, 0);
        plan(TOWN + "claim y b 0 9;right x b 3 3;task x a 1 5;", 3, 3);
        plan(TOWN + "claim y b 0 9;right y b 3 3;task x a 1 5;", 10, 10);
        plan(TOWN + "claim y b 0 9;right x a 3 3;task x a 1 5;", 10, 10);
        plan(TOWN + "claim y b 0 9;claim y a 3 5;right x b 3 9;task x a 1 5;", 6, 6);
        plan(TOWN + "claim y b 0 9;noise a x 0 47 20;task x a 2 4;", 1, 0);
        // By the law it isn't heard from 5 on.
        plan(TOWN + "claim y b 0 9;task x a 1 5;law fade loud*(minute<5);", 5, 5);
        plan(TOWN + "claim y b 0 47;task x a 1 5;law fade loud*(minute<47);", 47, 47);
        OwnedSilence x = Told.of(TOWN + "claim y b 0 47;task x a 1 5;");
        T.due("never", x.plan(), -2);
        x.wall(0, true);
        T.due("by a wall", x.plan(), 0);
        x.undo();
        x.sell(0, 0, 0);
        T.due("by a sale", x.plan(), 0);
        x.undo();
        T.due("never again", x.plan(), -2);
    }

    // "(NONE: there are no TASKS); -2: there is none."; "-2: there is no PLAN, there are no so many; NONE: no such ones."
    private static void noPlan() {
        OwnedSilence none = Told.of(TOWN);
        T.due("no tasks", none.plan(), -1);
        T.due("no tasks, planned", none.planned(0, 0), -2);
        T.due("empty", new OwnedSilence().plan(), -1);
        T.due("empty, planned", new OwnedSilence().planned(0, 1), -2);
        OwnedSilence two = Told.of(TOWN + "task x a 1 1;task y b 1 1;");
        OwnedSilence never = Told.of(TOWN + "claim y a 0 47;task y b 1 1;task x a 1 1;");
        for (int what = 0; what < 2; what++) {
            T.due("the second", two.planned(1, what), 1 - what);
            for (int k : new int[] {2, 3, 4, 5, Integer.MAX_VALUE}) {
                T.due("planned " + k, two.planned(k, what), -2);
            }
            for (int k : new int[] {-1, -2, Integer.MIN_VALUE}) {
                T.due("planned " + k, two.planned(k, what), -1);
                T.due("never planned " + k, never.planned(k, what), -1);
                T.due("nothing planned " + k, none.planned(k, what), -1);
            }
            T.due("never", never.planned(0, what), -2);
        }
        for (int what : Told.besides(1)) {
            T.due("planned what " + what, two.planned(0, what), -1);
            T.due("planned what of none " + what, two.planned(2, what), -1);
            T.due("never planned what " + what, never.planned(0, what), -1);
        }
    }

    // ---- walls

    // "the fewest by which, walled as well, it isn't HEARD there at any of its MINUTES; of several the least bits"
    private static void fewestWalls() {
        String way = "place a;place b;place c;link a b 1;link b c 1;owner x 1;noise a x 0 9 ";
        T.due("none needed", Told.of(way + "2;").walls(0, 2), 0);
        T.due("one, the least bits", Told.of(way + "3;").walls(0, 2), 1);
        T.due("one is just enough", Told.of(way + "7;").walls(0, 2), 1);
        T.due("two", Told.of(way + "8;").walls(0, 2), 3);
        T.due("two are just enough", Told.of(way + "12;").walls(0, 2), 3);
        T.due("none such", Told.of(way + "13;").walls(0, 2), -2);
        T.due("at its own place", Told.of(way + "1;").walls(0, 0), -2);
        T.due("not heard at its own place", Told.of(way + "1;law fade far*9;").walls(0, 0), 0);
        T.due("no way", Told.of("place a;place b;owner x 1;noise a x 0 9 20;").walls(0, 1), 0);
        OwnedSilence x = Told.of(way + "7;");
        x.wall(0, true);
        T.due("walled already", x.walls(0, 2), 0);
        x.wall(0, false);
        T.due("no more", x.walls(0, 2), 1);
        OwnedSilence loud = Told.of(way + "8;");
        loud.wall(0, true);
        T.due("those that have none yet", loud.walls(0, 2), 2);
        loud.wall(1, true);
        T.due("none are left, none are needed", loud.walls(0, 2), 0);
        OwnedSilence most = Told.of(way + "13;");
        most.wall(0, true);
        most.wall(1, true);
        T.due("none are left", most.walls(0, 2), -2);
        // At 9 alone it is heard farther.
        OwnedSilence once = Told.of(way + "1;law fade loud-far+(minute=9)*7;");
        T.due("at any of its minutes", once.walls(0, 2), 3);
        T.due("at minutes that aren't its own", Told.of(way + "1;law fade loud-far+(minute=10)*7;").walls(0, 2), 0);
    }

    // all nine LINKS: 511, and the last one alone: 256
    private static void allNineWalls() {
        String six = "place a;place b;place c;place d;place e;place f;link a b 1;link a c 1;link a d 1;link a e 1;link b f 1;"
                + "link c f 1;link d f 1;link e f 1;link a f 9;owner x 1;noise a x 0 0 1;wall 9;law fade far<";
        T.due("all", Told.of(six + "18;").walls(0, 5), 511);
        T.due("none such", Told.of(six + "19;").walls(0, 5), -2);
        T.due("each way once", Told.of(six + "3;").walls(0, 5), 15);
        T.due("the ninth", Told.of("place a;place b;place c;place d;place e;place f;link a b 1;link a c 1;link a d 1;link b c 1;"
                + "link b d 1;link c d 1;link a e 1;link b e 1;link e f 1;owner x 1;noise f x 0 0 3;").walls(0, 4), 256);
    }

    // the longest way there may be, of five LINKS: 45, with all WALLS 90
    private static void theLongestWay() {
        String row = "place a;place b;place c;place d;place e;place f;link a b 9;link b c 9;link c d 9;link d e 9;link e f 9;"
                + "owner x 1;noise a x 0 0 1;wall 9;law fade ";
        T.due("all five are just enough", Told.of(row + "90-far;").walls(0, 5), 31);
        T.due("all five aren't enough", Told.of(row + "91-far;").walls(0, 5), -2);
        T.due("four are just enough", Told.of(row + "81-far;").walls(0, 5), 15);
        T.due("four aren't enough", Told.of(row + "82-far;").walls(0, 5), 31);
        T.due("one is just enough", Told.of(row + "54-far;").walls(0, 5), 1);
        T.due("none is needed", Told.of(row + "45-far;").walls(0, 5), 0);
    }

    // "-2: there are none such; NONE: no such ones."
    private static void noSuchWalls() {
        OwnedSilence x = Told.of(STREET);
        for (int none : Told.besides(0)) {
            T.due("noise " + none, x.walls(none, 0), -1);
        }
        for (int none : Told.besides(2)) {
            T.due("place " + none, x.walls(0, none), -1);
        }
        x.make(2, 1, 0, 0, 1);
        T.due("a noise made", x.walls(1, 2), -2);
        T.due("no noise behind it", x.walls(2, 2), -1);
        x.stop(1);
        T.due("stopped: it isn't heard", x.walls(1, 2), 0);
        T.due("stopped, no such place", x.walls(1, 3), -1);
        T.due("empty", new OwnedSilence().walls(0, 0), -1);
    }

    // ---- bark

    // "those bark next that don't and HEAR any that does (FAR at most their EAR)"
    private static void hearing() {
        String two = "place a;place b;link a b 4;dog a 1;dog b ";
        T.due("FAR is the EAR", Told.of(two + "4;").bark(1, 0), 2);
        T.due("FAR is one more", Told.of(two + "3;").bark(1, 0), 1);
        T.due("EAR 20", Told.of("place a;place b;place c;place d;link a b 9;link b c 9;link c d 2;dog a 1;dog d 20;").bark(1, 0), 2);
        T.due("too far for 20", Told.of("place a;place b;place c;place d;link a b 9;link b c 9;link c d 3;dog a 1;dog d 20;")
                .bark(1, 0), 1);
        T.due("no way", Told.of("place a;place b;dog a 20;dog b 20;").bark(1, 0), 1);
        T.due("one that barks doesn't next", Told.of(two + "20;").bark(3, 0), 1);
        T.due("both hear", Told.of("place a;place b;link a b 1;dog a 1;dog b 1;").bark(1, 0), -2);
        OwnedSilence x = Told.of(two + "4;");
        x.wall(0, true);
        T.due("not by a wall", x.bark(1, 0), 1);
    }

    // "how many MINUTES till none does, or the PERIOD in which it comes again"; "(-2: it never ends)"; "(0: it ends)"; "the
    // most that bark at once"
    private static void endsOrPeriods() {
        OwnedSilence five = Told.of("place a;place b;place c;place d;place e;place f;link a e 3;link c f 5;link b d 8;link d e 3;"
                + "link e f 2;dog a 9;dog b 16;dog c 4;dog d 5;dog e 1;dog f 4;");
        T.due("ends", five.bark(26, 0), 5);
        T.due("no PERIOD", five.bark(26, 1), 0);
        OwnedSilence six = Told.of("place a;place b;place c;place d;place e;place f;link a f 7;link c f 3;link d f 9;link d e 7;"
                + "link c e 5;link a c 7;link b f 5;link a e 1;link b c 8;dog a 10;dog b 5;dog c 5;dog d 17;dog e 3;dog f 3;");
        T.due("never ends", six.bark(61, 0), -2);
        T.due("PERIOD behind six minutes", six.bark(61, 1), 2);
        T.due("the most at first", six.bark(61, 2), 5);
        T.due("all of them", six.bark(63, 2), 6);
        T.due("all of them, one minute", six.bark(63, 0), 1);
        OwnedSilence star = Told.of("place a;place b;place c;place d;link a b 1;link a c 1;link a d 1;dog a 1;dog b 1;dog c 1;dog d 1;");
        T.due("the most later on", star.bark(1, 2), 3);
        T.due("one by one", star.bark(1, 1), 2);
        T.due("none, at once", star.bark(0, 0), 0);
        T.due("none, no PERIOD", star.bark(0, 1), 0);
        T.due("none, none at once", star.bark(0, 2), 0);
    }

    // "NONE: no such ones, no DOG there."
    private static void noDogThere() {
        OwnedSilence x = Told.of("place a;place b;place c;dog a 1;dog c 1;");
        int[] some = {0, 1, 4, 5};
        for (int dogs : some) {
            T.due("bark " + dogs, x.bark(dogs, 2), Integer.bitCount(dogs));
        }
        int[] none = {-1, 2, 3, 6, 7, 8, 9, 64, 65, 128, 1 << 30, 1 << 31, Integer.MAX_VALUE, (1 << 31) + 1};
        for (int dogs : none) {
            for (int what = 0; what < 3; what++) {
                T.due("bark " + dogs + " " + what, x.bark(dogs, what), -1);
            }
        }
        for (int what : Told.besides(2)) {
            T.due("bark what " + what, x.bark(1, what), -1);
            T.due("bark of none, what " + what, x.bark(0, what), -1);
        }
        OwnedSilence empty = new OwnedSilence();
        T.due("no dogs at all", empty.bark(0, 0), 0);
        T.due("no place for one", empty.bark(1, 0), -1);
    }

    // ---- notes

    // "NOTES, at most 24, numbered from 0 on"; "NONE: no such ones, or there are 24"
    private static void twentyFourNotes() {
        OwnedSilence x = Told.of(STREET);
        for (int none : Told.besides(2)) {
            T.due("note at " + none, x.note(none, 0, true), -1);
        }
        for (int none : Told.besides(47)) {
            T.due("note then " + none, x.note(0, none, true), -1);
        }
        for (int none : new int[] {-1, 0, 1, Integer.MIN_VALUE, Integer.MAX_VALUE}) {
            T.due("strike of " + none, x.strike(none), -1);
        }
        T.due("none yet", x.count(9), 0);
        T.due("first place, first minute", x.note(0, 0, true), 0);
        T.due("last place, last minute", x.note(2, 47, false), 1);
        T.due("a STRIKE counts, too", x.strike(1), 2);
        T.due("of the last one", x.strike(2), 3);
        T.due("not of itself", x.strike(4), -1);
        for (int i = 4; i < 23; i++) {
            T.due("note " + i, x.note(1, i, false), i);
        }
        T.due("the last one", x.strike(0), 23);
        T.due("a 25th note", x.note(0, 0, true), -1);
        T.due("a 25th strike", x.strike(23), -1);
        T.due("24", x.count(9), 24);
        T.due("no place for a note", Told.of("owner x 1;").note(0, 0, true), -1);
        T.due("no note to strike", new OwnedSilence().strike(0), -1);
    }

    // "KNOWN by n from now on (-1: by all, also those to come): true; false: no such n."
    private static void knownByHowMany() {
        OwnedSilence x = Told.of(STREET);
        T.due("none of none", x.known(0), true);
        T.due("one of none", x.known(1), false);
        T.due("all of none", x.known(-1), true);
        x.note(0, 0, true);
        T.due("all, also that one", x.count(10), 1);
        x.note(0, 1, true);
        for (int none : new int[] {-2, 3, 24, 25, Integer.MIN_VALUE, Integer.MAX_VALUE}) {
            T.due("known(" + none + ")", x.known(none), false);
            T.due("stays", x.count(10), 2);
        }
        T.due("two of two", x.known(2), true);
        T.due("so it is", x.known(2), true);
        x.note(0, 2, true);
        T.due("not the third", x.count(10), 2);
        T.due("none", x.known(0), true);
        T.due("by none", x.count(10), 0);
        T.due("by none, refused", x.known(4), false);
        T.due("still by none", x.count(10), 0);
        T.due("by all", x.known(-1), true);
        T.due("three", x.count(10), 3);
        OwnedSilence full = Told.of("place a;");
        for (int i = 0; i < 24; i++) {
            full.note(0, 0, false);
        }
        T.due("24 of 24", full.known(24), true);
        T.due("25 of 24", full.known(25), false);
    }

    // "the first n that aren't STRUCK by one of these (a STRIKE may be STRUCK: then it doesn't count; asked from the last
    // one on)"
    private static void struckOnes() {
        OwnedSilence x = Told.of("place a;owner x 1;");
        // Noise at 0, at 1: nobody spoke at both.
        x.note(0, 0, true);
        x.note(0, 1, true);
        int[] due = {960, 20, 0, 20, 0, 20, 0, 0, 20};
        x.strike(1);
        x.strike(2);
        x.strike(3);
        x.strike(4);
        x.strike(2);
        x.strike(1);
        for (int n = 0; n <= 8; n++) {
            x.known(n);
            T.due("known by " + n, x.thieves(), due[n]);
        }
    }

    // "at a PLACE and a MINUTE there was noise, or none"; "so that with all NOISES of now all KNOWN ones are so"
    private static void allNotesAreSo() {
        OwnedSilence x = Told.of("place a;place b;owner x 1;noise a x 5 5 1;");
        x.note(0, 5, true);
        T.due("noise of now", x.thieves(), 1920);
        x.note(1, 5, false);
        T.due("not at b at 5", x.thieves(), 1900);
        x.note(1, 47, true);
        T.due("at b at 47", x.thieves(), 20);
        T.due("the place", x.thief(0, 0), 1);
        T.due("the minute", x.thief(19, 1), 47);
        x.note(1, 47, false);
        T.due("noise and none at once", x.thieves(), 0);
        T.due("none of them", x.thief(0, 0), -2);
        OwnedSilence y = Told.of("place a;place b;owner x 1;noise a x 5 5 1;");
        y.note(0, 5, false);
        T.due("there was none, but there is noise", y.thieves(), 0);
        y.stop(0);
        T.due("of now", y.thieves(), 1920 - 20);
        y.undo();
        T.due("of now, again", y.thieves(), 0);
    }

    // "LOUD 1 .. 20": LOUD 20 alone goes 19 far, none goes 20
    private static void howLoud() {
        String row = "place a;place b;place c;place d;link a b 9;link b c 9;link c d ";
        OwnedSilence near = Told.of(row + "1;");
        near.note(3, 0, true);
        T.due("19 far", near.thieves(), 1 + 10 + 19 + 20);
        T.due("the first one's LOUD", near.thief(0, 2), 20);
        T.due("the first one's place", near.thief(0, 0), 0);
        T.due("the second one's place", near.thief(1, 0), 1);
        T.due("the second one's LOUD", near.thief(1, 2), 11);
        T.due("the last one's LOUD", near.thief(49, 2), 20);
        T.due("the minute", near.thief(49, 1), 0);
        OwnedSilence far = Told.of(row + "2;");
        far.note(3, 0, true);
        T.due("20 far", far.thieves(), 9 + 18 + 20);
        T.due("nobody at a", far.thief(0, 0), 1);
        OwnedSilence own = Told.of("place a;");
        own.note(0, 47, true);
        T.due("LOUD 1 is heard", own.thieves(), 20);
        T.due("LOUD 1", own.thief(0, 2), 1);
        T.due("at 47", own.thief(0, 1), 47);
        own.note(0, 46, false);
        T.due("for that MINUTE alone", own.thieves(), 20);
    }

    // "The k-th .. -2: there are no so many; NONE: no such ones."; "in this order"
    private static void theKthThief() {
        OwnedSilence x = Told.of("place a;place b;");
        T.due("all there may be", x.thieves(), 1920);
        int[][] due = {{0, 0, 0, 1}, {19, 0, 0, 20}, {20, 0, 1, 1}, {959, 0, 47, 20}, {960, 1, 0, 1}, {1919, 1, 47, 20}};
        for (int[] one : due) {
            for (int what = 0; what < 3; what++) {
                T.due("thief " + one[0] + " " + what, x.thief(one[0], what), one[1 + what]);
            }
        }
        for (int what = 0; what < 3; what++) {
            T.due("one too many", x.thief(1920, what), -2);
            T.due("far too many", x.thief(Integer.MAX_VALUE, what), -2);
            T.due("below", x.thief(-1, what), -1);
            T.due("far below", x.thief(Integer.MIN_VALUE, what), -1);
        }
        for (int what : Told.besides(2)) {
            T.due("thief's " + what, x.thief(0, what), -1);
            T.due("none's " + what, x.thief(1920, what), -1);
        }
        T.due("no places", new OwnedSilence().thieves(), 0);
        T.due("no places, the first", new OwnedSilence().thief(0, 0), -2);
        T.due("six places", Told.of("place a;place b;place c;place d;place e;place f;").thieves(), 6 * 960);
        T.due("the last of six", Told.of("place a;place b;place c;place d;place e;place f;").thief(5759, 0), 5);
    }

    // ---- left

    // "INHERITED (law 0, 1, 2): how many MINUTES; NONE: no such ones."
    private static void noSuchDeath() {
        OwnedSilence x = Told.of(STREET);
        for (int law = 0; law < 3; law++) {
            for (int none : Told.besides(1)) {
                T.due("left by " + none, x.left(none, law), -1);
            }
            T.due("no owners", Told.of("place a;").left(0, law), -1);
            T.due("no places", Told.of("owner x 1;").left(0, law), 0);
        }
        for (int law : Told.besides(2)) {
            T.due("law " + law, x.left(0, law), -1);
            T.due("law of none " + law, x.left(2, law), -1);
        }
    }

    // "1 of each the first half of its MINUTES (cut) to the heir, the others to the heir's heir (the heir, without one or if
    // that is who died)"
    private static void halves() {
        String three = "place a;owner x 1;owner y 1;owner z 1;heir x y;heir y z;claim x a ";
        int[][] due = {{0, 0, 1}, {0, 1, 1}, {0, 2, 2}, {0, 3, 2}, {0, 47, 24}, {0, 46, 24}, {47, 47, 1}, {5, 9, 3}};
        for (int[] one : due) {
            T.due("from " + one[0] + " to " + one[1], Told.of(three + one[0] + " " + one[1] + ";").left(0, 1), one[2]);
        }
        // What is claimed beside it tells whose each half is.
        String beside = "place a;owner x 1;owner y 1;owner z 1;heir x y;heir y z;claim x a 10 14;claim ";
        T.due("two minutes to the heir", Told.of(beside + "y a 0 9;").left(0, 1), 12);
        T.due("three to the heir's heir", Told.of(beside + "z a 15 19;").left(0, 1), 8);
        T.due("one minute, to the heir's heir", Told.of("place a;owner x 1;owner y 1;owner z 1;heir x y;heir y z;claim x a 7 7;"
                + "claim y a 0 6;claim z a 8 14;").left(0, 1), 8);
        String pair = "place a;owner x 1;owner y 1;heir x y;claim x a 10 14;";
        T.due("without one", Told.of(pair).left(0, 1), 5);
        T.due("that is who died", Told.of(pair + "heir y x;").left(0, 1), 5);
        T.due("of each", Told.of(three + "0 3;claim x a 20 29;").left(0, 1), 5);
        T.due("eight of them", Told.of("place a;owner x 1;owner y 1;owner z 1;heir x y;heir y z;" + "claim x a 0 1;".repeat(7)
                + "claim x a 30 39;").left(0, 1), 5);
    }

    // "(without an heir as in 2)"; "2 they are nobody's any more"
    private static void nobodysAnyMore() {
        String one = "place a;owner x 1;owner y 1;claim x a 0 9;claim y a 5 6;";
        for (int law = 0; law < 3; law++) {
            T.due("without an heir", Told.of(one).left(0, law), 2);
            T.due("with an heir", Told.of(one + "heir x y;").left(0, law), law == 2 ? 2 : 10);
            T.due("nothing is left", Told.of("place a;owner x 1;claim x a 0 47;").left(0, law), 0);
            T.due("nothing was had", Told.of("place a;owner x 1;owner y 1;claim y a 0 47;").left(0, law), 48);
        }
    }

    // "the greatest row of SILENT MINUTES at a PLACE that are one OWNER's (WHOSE)"
    private static void theGreatestRow() {
        String two = "place a;place b;link a b 1;owner x 1;owner y 1;owner z 1;";
        T.due("all day", Told.of(two + "claim y b 0 47;").left(2, 0), 48);
        T.due("not over two places", Told.of(two + "claim y a 40 47;claim y b 0 7;").left(2, 0), 8);
        T.due("broken by a noise", Told.of(two + "claim y a 0 47;noise a z 10 10 1;").left(2, 0), 37);
        T.due("broken by another one", Told.of(two + "claim x a 10 10;claim y a 0 47;").left(2, 0), 37);
        T.due("broken by nobody", Told.of(two + "claim y a 0 9;claim y a 11 19;").left(2, 0), 10);
        T.due("joined of two claims", Told.of(two + "claim y a 0 9;claim y a 10 19;").left(2, 0), 20);
        T.due("by a noise ahead", Told.of(two + "noise a z 0 0 1;").left(0, 0), 47);
        T.due("by one who died, too", Told.of(two + "noise a z 0 0 1;").left(2, 2), 47);
        T.due("none", Told.of(two).left(2, 0), 0);
        T.due("no silence", Told.of("place a;owner x 1;claim x a 0 47;noise a x 0 47 1;").left(0, 0), 0);
        OwnedSilence x = Told.of(two + "heir x y;claim x a 0 9;");
        x.left(0, 0);
        T.due("nothing has changed", x.claim(0, 0), 0);
    }

    // ---- rests

    // "(prize, costs 0 .. 99 each); NONE: no such ones."; "-2: there are no so many"
    private static void waits() {
        OwnedSilence x = new OwnedSilence();
        for (int none : Told.besides(99)) {
            T.due("prize " + none, x.rests(none, 5, 5), -1);
            T.due("one " + none, x.rests(5, none, 5), -1);
            T.due("other " + none, x.rests(5, 5, none), -1);
            T.due("the first, prize " + none, x.rest(none, 5, 5, 0), -1);
            T.due("the first, one " + none, x.rest(5, none, 5, 0), -1);
            T.due("the first, other " + none, x.rest(5, 5, none, 0), -1);
        }
        int[][] some = {{0, 0, 0}, {99, 0, 0}, {0, 99, 0}, {0, 0, 99}, {99, 99, 99}, {1, 0, 0}, {10, 1, 1}, {4, 0, 99}, {7, 3, 2}};
        for (int[] one : some) {
            int many = x.rests(one[0], one[1], one[2]);
            T.due("rests of " + one[0] + " " + one[1] + " " + one[2], many, restsOf(one, -1));
            for (int k : new int[] {0, many - 1}) {
                T.due("rest " + k + " of " + one[0], x.rest(one[0], one[1], one[2], k), restsOf(one, k));
            }
            T.due("no more", x.rest(one[0], one[1], one[2], many), -2);
            T.due("far more", x.rest(one[0], one[1], one[2], Integer.MAX_VALUE), -2);
            T.due("below", x.rest(one[0], one[1], one[2], -1), -1);
            T.due("far below", x.rest(one[0], one[1], one[2], Integer.MIN_VALUE), -1);
        }
    }

    /** How many rests, or the k-th: by the table of what both have. */
    private static int restsOf(int[] wait, int k) {
        int many = 0;
        for (int a = 0; a < 10; a++) {
            for (int b = 0; b < 10; b++) {
                boolean rests = true;
                for (int other = 0; other < 10; other++) {
                    rests &= has(wait[0], wait[1], other, b) <= has(wait[0], wait[1], a, b);
                    rests &= has(wait[0], wait[2], other, a) <= has(wait[0], wait[2], b, a);
                }
                if (rests && many++ == k) {
                    return 10 * a + b;
                }
            }
        }
        return many;
    }

    private static int has(int prize, int cost, int own, int other) {
        int won = own > other ? prize : own == other ? prize / 2 : 0;
        return won - cost * (own < other ? own : other);
    }

    // "neither would have more": as much is no more; "half of it each, cut"
    private static void asMuchIsNoMore() {
        OwnedSilence x = new OwnedSilence();
        T.due("for nothing, at no cost, all of them", x.rests(0, 0, 0), 100);
        T.due("the first of all", x.rest(0, 0, 0, 0), 0);
        T.due("the last of all", x.rest(0, 0, 0, 99), 99);
        T.due("for nothing, at a cost, one says 0", x.rests(0, 1, 1), 19);
        // One is cut to nothing: whoever says less than 9 against 9 has as much.
        T.due("half of one", x.rests(1, 0, 0), 19);
        T.due("half of one, the first", x.rest(1, 0, 0, 0), 9);
        T.due("half of two", x.rests(2, 0, 0), 1);
        T.due("half of two, 9 and 9", x.rest(2, 0, 0, 0), 99);
    }

    // ---- year

    private static long next(long number) {
        return (number * 1103515245L + 12345L) % 2147483648L;
    }

    /** What a year comes to if a day of each kind comes to so much, whatever the place and minute of a quarrel. */
    private static int year(long seed, int n, int snow, int quarrel, int calm, boolean drawn) {
        long number = seed;
        int sum = 0;
        for (int day = 0; day < n; day++) {
            number = next(number);
            long kind = number / 65536 % 3;
            sum += kind == 0 ? snow : kind == 1 ? quarrel : calm;
            for (int i = 0; i < 3 && kind == 1 && drawn; i++) {
                number = next(number);
            }
        }
        return sum;
    }

    // "(seed 0 .. 2147483647, n 0 .. 20); NONE: no such ones"
    private static void seedsAndDays() {
        OwnedSilence x = Told.of(STREET);
        for (int seed : new int[] {-1, -2, Integer.MIN_VALUE}) {
            T.due("seed " + seed, x.year(seed, 1), -1);
            T.due("no days, seed " + seed, x.year(seed, 0), -1);
        }
        for (int n : Told.besides(20)) {
            T.due("days " + n, x.year(1, n), -1);
        }
        String lone = "place a;owner x 1;";
        for (int seed : new int[] {0, 1, 2, 65535, 65536, 99999, 1 << 30, Integer.MAX_VALUE - 1, Integer.MAX_VALUE}) {
            for (int n : new int[] {0, 1, 19, 20}) {
                T.due("seed " + seed + " " + n, Told.of(lone).year(seed, n), year(seed, n, 48, 44, 48, true));
            }
        }
        T.due("a seed that is told changes nothing", Told.of("seed 99999;" + lone).year(3, 20), year(3, 20, 48, 44, 48, true));
    }

    // "without PLACES or OWNERS a QUARREL is nothing (no numbers for it)"
    private static void noQuarrel() {
        for (int seed = 0; seed < 30; seed++) {
            T.due("no owners, seed " + seed, Told.of("place a;").year(seed, 20), 960);
            T.due("no places, seed " + seed, Told.of("owner x 1;").year(seed, 20), 0);
            T.due("neither, seed " + seed, new OwnedSilence().year(seed, 20), 0);
        }
        // Snow needs a noise to be told from a calm day, and that an owner; so the numbers are seen by the owner's quarrels.
        String loud = "place a;owner x 1;noise a x 0 0 5;law fade loud=5;";
        for (int seed = 0; seed < 30; seed++) {
            T.due("numbers for it, seed " + seed, Told.of(loud).year(seed, 20), year(seed, 20, 48, 47, 47, true));
        }
    }

    // "0 SNOW: all NOISES are 5 less LOUD (below 1: none)"
    private static void snow() {
        String town = "place a;owner x 1;noise a x 0 9 ";
        for (int seed = 0; seed < 12; seed++) {
            T.due("LOUD 6 is 1", Told.of(town + "6;law fade loud=1;").year(seed, 20), year(seed, 20, 38, 48, 48, true));
            T.due("LOUD 5 is none", Told.of(town + "5;law fade loud=5 or loud=0;").year(seed, 20), year(seed, 20, 48, 38, 38, true));
            T.due("LOUD 1 is none", Told.of(town + "1;law fade loud<9;").year(seed, 20), year(seed, 20, 48, 38, 38, true));
            T.due("LOUD 20 is 15", Told.of(town + "20;law fade loud=15;").year(seed, 20), year(seed, 20, 38, 48, 48, true));
        }
    }

    // "one more NOISE there from that MINUTE for 4, LOUD 10": it goes 9 far, not 10
    private static void quarrels() {
        String two = "place a;place b;link a b 9;wall 1;owner x 1;";
        for (int seed = 0; seed < 12; seed++) {
            OwnedSilence x = Told.of(two);
            T.due("9 far, seed " + seed, x.year(seed, 20), year(seed, 20, 96, 88, 96, true));
            x.wall(0, true);
            T.due("10 far, seed " + seed, x.year(seed, 20), year(seed, 20, 96, 92, 96, true));
            T.due("LOUD 10, seed " + seed, Told.of("place a;owner x 1;law fade loud=10;").year(seed, 20),
                    year(seed, 20, 48, 44, 48, true));
            OwnedSilence full = Told.of("place a;owner x 1;law fade loud=10;" + "noise a x 0 0 1;".repeat(8));
            for (int i = 8; i < 12; i++) {
                full.make(0, 0, 0, 0, 1);
            }
            T.due("one more than twelve, seed " + seed, full.year(seed, 20), year(seed, 20, 48, 44, 48, true));
        }
        quarrelMinutes();
    }

    // "modulo PLACES, OWNERS (by whom), 44": minutes 0 to 43, so it ends at 46 at the latest
    private static void quarrelMinutes() {
        for (int seed = 0; seed < 400; seed++) {
            long number = next(seed);
            if (number / 65536 % 3 != 1) {
                continue;
            }
            long place = next(number);
            long from = next(next(place)) / 65536 % 44;
            boolean second = place / 65536 % 2 == 1;
            // Noise is there already but at the quarrel's last minute.
            OwnedSilence x = Told.of("place a;place b;owner x 1;law fade loud=10 or minute<" + (from + 3) + ";noise a x 0 47 10;"
                    + "noise b x 0 47 1;");
            T.due("the last minute of a quarrel from " + from, x.year(seed, 1), 48 - (int) from - 3 - (second ? 1 : 0));
            T.due("of another owner", Told.of("place a;place b;owner x 1;owner y 1;owner z 1;law fade loud=10;").year(seed, 1), 92);
        }
    }

    // ---- tried

    // "TRIED; NONE: no such ones (i 0 of 0, 3)."
    private static void trials() {
        OwnedSilence x = Told.of(STREET);
        int[] most = {0, 0, 1, 0, 1, 2};
        for (int what = 0; what < 6; what++) {
            for (int i = 0; i <= most[what]; i++) {
                T.due("tried " + what + " " + i, x.tried(what, i) >= 0, true);
            }
            for (int none : Told.besides(most[what])) {
                T.due("tried " + what + " " + none, x.tried(what, none), -1);
            }
        }
        for (int what : Told.besides(5)) {
            T.due("tried " + what, x.tried(what, 0), -1);
        }
        OwnedSilence none = new OwnedSilence();
        for (int what = 0; what < 6; what++) {
            T.due("empty, tried " + what, none.tried(what, 0), what == 0 || what == 3 ? 0 : -1);
        }
        T.due("nothing has changed", x.count(15), 124);
        T.due("no walls", x.count(12), 0);
        T.due("no noise more", x.count(3), 1);
        T.due("nothing to undo", x.count(11), 0);
    }

    // "3 all are 5 less LOUD (below 1: none)"; "5 there is one more NOISE at PLACE i all DAY, LOUD 8"
    private static void lessAndMoreLoud() {
        String town = "place a;owner x 1;noise a x 0 9 ";
        T.due("LOUD 6 is 1", Told.of(town + "6;law fade loud=1;").tried(3, 0), 38);
        T.due("LOUD 5 is none", Told.of(town + "5;law fade loud=0 or loud=5;").tried(3, 0), 48);
        T.due("LOUD 4 is none", Told.of(town + "4;law fade 1;").tried(3, 0), 48);
        T.due("without a law, LOUD 6", Told.of(town + "6;").tried(3, 0), 38);
        T.due("without a law, LOUD 5", Told.of(town + "5;").tried(3, 0), 48);
        String far = "place a;place b;owner x 1;link a b ";
        T.due("LOUD 8 goes 7 far", Told.of(far + "7;").tried(5, 0), 0);
        T.due("LOUD 8 doesn't go 8 far", Told.of(far + "8;").tried(5, 1), 48);
        T.due("LOUD 8", Told.of("place a;law fade loud=8;").tried(5, 0), 0);
        T.due("all DAY", Told.of("place a;law fade minute=0 or minute=47;").tried(5, 0), 46);
        T.due("without owners", Told.of("place a;").tried(5, 0), 0);
    }

    // "0 there are no WALLS, 1 NOISE i isn't there, 2 OWNER i makes none, .. 4 LINK i isn't there"
    private static void whatIsntThere() {
        OwnedSilence x = Told.of("place a;place b;place c;link a b 2;link b c 2;link a c 5;owner x 1;owner y 1;owner z 1;"
                + "noise a x 0 0 6;noise b y 1 1 5;noise c x 2 2 1;");
        T.due("as it is", x.count(15), 144 - 3 - 3 - 1);
        T.due("NOISE 0 isn't there", x.tried(1, 0), 144 - 4);
        T.due("NOISE 2 isn't there", x.tried(1, 2), 144 - 6);
        T.due("x makes none", x.tried(2, 0), 144 - 3);
        T.due("y makes none", x.tried(2, 1), 144 - 4);
        T.due("z made none", x.tried(2, 2), 144 - 7);
        // Without a-b b is 7 from a by c; without b-c c is still 5 from a, b doesn't reach it.
        T.due("LINK 0 isn't there", x.tried(4, 0), 144 - 2 - 2 - 1);
        T.due("LINK 1 isn't there", x.tried(4, 1), 144 - 3 - 2 - 1);
        T.due("LINK 2 isn't there", x.tried(4, 2), 144 - 7);
        x.wall(0, true);
        T.due("a wall", x.count(15), 144 - 2 - 2 - 1);
        T.due("no WALLS", x.tried(0, 0), 144 - 7);
        T.due("the wall stays", x.count(12), 1);
        x.make(0, 1, 47, 47, 1);
        x.stop(3);
        T.due("a stopped one isn't there", x.tried(1, 3), x.count(15));
        T.due("nor does it come again", x.tried(0, 0), 144 - 7);
    }

    public static void main(String[] args) {
        withinTheDay();
        oneAtATime();
        theBestOrder();
        noTrespassAnywhere();
        noPlan();
        fewestWalls();
        allNineWalls();
        theLongestWay();
        noSuchWalls();
        hearing();
        endsOrPeriods();
        noDogThere();
        twentyFourNotes();
        knownByHowMany();
        struckOnes();
        allNotesAreSo();
        howLoud();
        theKthThief();
        noSuchDeath();
        halves();
        nobodysAnyMore();
        theGreatestRow();
        waits();
        asMuchIsNoMore();
        seedsAndDays();
        noQuarrel();
        snow();
        quarrels();
        trials();
        lessAndMoreLoud();
        whatIsntThere();
        T.end();
    }
}
