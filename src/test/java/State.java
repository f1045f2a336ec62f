import java.util.ArrayList;
import java.util.List;
import java.util.NoSuchElementException;
import java.util.function.Supplier;

/**
 * All that an object's calls tell of it. What one asking changes is asked of another object that was made alike, so
 * each of them answers less than 512 calls.
 */
final class State {
    private final List<String> told = new ArrayList<>();

    private State() {
    }

    static List<String> of(Supplier<OwnedSilence> maker) {
        State state = new State();
        state.rows(maker.get());
        state.searched(maker.get());
        state.whose(maker.get(), 0);
        state.whose(maker.get(), 3);
        state.undone(maker.get());
        state.imaged(maker.get());
        state.taped(maker.get());
        state.noted(maker.get());
        return state.told;
    }

    /** The first thing that is told otherwise, or an empty text. */
    static String difference(List<String> one, List<String> other) {
        for (int i = 0; i < Math.max(one.size(), other.size()); i++) {
            String first = i < one.size() ? one.get(i) : "nothing";
            String second = i < other.size() ? other.get(i) : "nothing";
            if (!first.equals(second)) {
                return first + " but " + second;
            }
        }
        return "";
    }

    private void add(String call, long answer) {
        told.add(call + " " + answer);
    }

    private void counts(String when, OwnedSilence x) {
        for (int what = 0; what < 16; what++) {
            add(when + " count " + what, x.count(what));
        }
    }

    private void rows(OwnedSilence x) {
        counts("", x);
        add("fault", x.fault(0));
        add("place", x.fault(1));
        for (int row = 0; row < 12; row++) {
            for (int what = 0; what < 6; what++) {
                add("noise " + row + " " + what, x.noise(row, what));
                add("claim " + row + " " + what, row < 8 && what < 4 ? x.claim(row, what) : 0);
                add("link " + row + " " + what, row < 9 && what < 4 ? x.link(row, what) : 0);
            }
        }
        for (int owner = 0; owner < x.count(2); owner++) {
            for (int what = 0; what < 5; what++) {
                try {
                    add("owner " + owner + " " + what, x.owner(owner, what));
                } catch (IndexOutOfBoundsException | NoSuchElementException e) {
                    told.add(e.toString());
                }
            }
        }
        for (int letter = 1; letter <= 26; letter++) {
            add("place's letter " + letter, x.named(0, letter << 25));
            add("owner's letter " + letter, x.named(1, letter << 25));
        }
        for (int i = 0; i < 10; i++) {
            add("fade " + i, x.law(0, 20, i, i));
            add("worth " + i, x.law(1, i, i, i));
        }
    }

    private void searched(OwnedSilence x) {
        int places = x.count(0);
        for (int one = 0; one < places; one++) {
            add("hush " + one, x.hush(one));
            for (int other = 0; other < places; other++) {
                add("far " + one + " " + other, x.far(one, other));
            }
        }
        add("spans", x.spans());
        add("pieces", x.pieces());
        for (int k = 0; k < 9; k++) {
            for (int what = 0; what < 6; what++) {
                add("piece " + k + " " + what, x.piece(k, what));
                add("span " + k + " " + what, x.span(k, what));
            }
            add("part " + k, x.part(k, 0));
            add("leaves " + k, x.leaves(k));
            add("planned " + k, x.planned(k, 0));
            add("begins " + k, x.planned(k, 1));
            add("thief " + k, x.thief(9 * k, 2));
        }
        add("plan", x.plan());
        add("thieves", x.thieves());
        for (int i = 0; i < 6; i++) {
            add("tried " + i, x.tried(i, 0));
            add("year " + i, x.year(i, 7));
            add("left " + i, x.left(i, 0));
            add("walls " + i, x.walls(0, i));
            add("bark " + i, x.bark(1 << i, 0));
            add("barks " + i, x.bark(1 << i, 1));
        }
    }

    private void whose(OwnedSilence x, int from) {
        for (int place = from; place < Math.min(x.count(0), from + 3); place++) {
            for (int minute = 0; minute < 48; minute++) {
                add("whose " + place + " " + minute, x.whose(place, minute));
                add("heard " + place + " " + minute, x.heard(place, minute));
            }
        }
    }

    private void undone(OwnedSilence x) {
        for (int i = 0; i < 21; i++) {
            add("undo", x.undo());
            for (int what : new int[] {3, 11, 12, 13, 14, 15}) {
                add("undone count " + what, x.count(what));
            }
        }
    }

    private void imaged(OwnedSilence x) {
        add("back", x.back());
        counts("back", x);
        for (int row = 0; row < 8; row++) {
            add("back claim " + row, x.claim(row, 0));
            add("back link " + row, x.link(row, 3));
            add("back noise " + row, x.noise(row, 5));
        }
        add("back undo", x.undo());
    }

    /** The TAPE's length, and what its bytes tell. */
    private void taped(OwnedSilence x) {
        int many = x.feed(0, 0, 0, 0, 0);
        add("taped", many);
        add("taped text", x.text(many < 0 ? 700 : many - 20));
        add("taped fault", x.fault(0));
        add("taped place", x.fault(1));
        counts("taped", x);
    }

    /** By how many it is known, and what each note is, as far as thieves tell. */
    private void noted(OwnedSilence x) {
        int many = x.count(9);
        for (int n = 0; n <= many; n++) {
            x.known(n);
            add("thieves by " + n, x.thieves());
            add("the first by " + n, x.thief(0, 1));
            add("the last by " + n, x.thief(x.thieves() - 1, 1));
        }
        x.known(-1);
        add("by all", x.count(10));
    }
}
