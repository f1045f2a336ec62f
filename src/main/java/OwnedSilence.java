import java.util.NoSuchElementException;

/**
 * A silence that is owned: a text tells of places, owners, noises and claims; the calls ask where it is
 * silent, whose that is and what it is worth, and change noises, walls and claims.
 */
public final class OwnedSilence {
    public static final int NONE = -1;

    /** There is none, or there are not so many. */
    private static final int MISSING = -2;
    private static final int NOBODY = -2;
    private static final int NOT_SILENT = -3;

    private static final int DAY = 48;
    private static final long ALL_DAY = (1L << 48) - 1;
    private static final int PLACES = 6;
    private static final int LINKS = 9;
    private static final int OWNERS = 4;
    private static final int NOISES_TOLD = 8;
    private static final int NOISES = 12;
    private static final int CLAIMS = 8;
    private static final int RIGHTS = 6;
    private static final int TASKS = 4;
    private static final int KNOTS = 64;
    private static final int LOUDEST = 20;
    private static final int TAPE = 700;
    /** A way has a link less than places, each of length 9 with a wall of 9. */
    private static final int FARTHEST = 5 * 18;
    /** Each place has a dog that barks, or none does. */
    private static final int STATES = 1 << 6;

    // The columns of each kind of row.
    private static final int NAME = 0;
    private static final int EAR = 1;
    private static final int COIN = 1;
    private static final int HEIR = 2;
    private static final int ONE = 0;
    private static final int OTHER = 1;
    private static final int LENGTH = 2;
    private static final int WALLED = 3;
    private static final int SITE = 0;
    private static final int MAKER = 1;
    private static final int FROM = 2;
    private static final int TO = 3;
    private static final int LOUD = 4;
    private static final int STOPPED = 5;
    private static final int HOLDER = 0;
    private static final int GROUND = 1;
    private static final int LASTS = 2;
    private static final int TASK_LOUD = 3;

    // What a record of the log undoes.
    private static final int MADE = 0;
    private static final int HALTED = 1;
    private static final int BUILT = 2;
    private static final int SOLD = 3;

    private final byte[] tape = new byte[TAPE];
    private int taped;
    private final Reader reader = new Reader();
    private World now = new World();
    private World draft = new World();
    private final World image = new World();
    private boolean kept;
    private final World trial = new World();
    private final Air nowAir = new Air();
    private boolean airFresh;
    private final Air trialAir = new Air();
    private final Pieces nowPieces = new Pieces();
    private boolean piecesFresh;
    private final Planner planner = new Planner();
    private final Notes notes = new Notes();
    private final Rows log = new Rows(5, 20);
    private final int[] barkedAt = new int[STATES];
    /** Of each way's length whether the noise is heard so far: see trialReaches. */
    private final int[] heardFrom = new int[FARTHEST + 1];

    public OwnedSilence() {
    }

    // ---- the text

    public int feed(int a, int b, int c, int d, int e) {
        if (taped + 20 > TAPE) {
            return NONE;
        }
        tapeNumber(a);
        tapeNumber(b);
        tapeNumber(c);
        tapeNumber(d);
        tapeNumber(e);
        return taped;
    }

    private void tapeNumber(int number) {
        for (int shift = 24; shift >= 0 && taped < TAPE; shift -= 8) {
            tape[taped] = (byte) (number >>> shift);
            taped++;
        }
    }

    public int text(int n) {
        if (n < 0 || n > taped) {
            return MISSING;
        }
        taped = 0;
        if (!reader.read(tape, n, draft)) {
            return NONE;
        }
        World before = now;
        now = draft;
        draft = before;
        kept = false;
        notes.clear();
        log.clear();
        changed();
        return now.lines;
    }

    public int fault(int what) {
        if (what == 0) {
            return reader.faultKind;
        }
        return what == 1 ? reader.faultAt : NONE;
    }

    public int named(int what, int letters) {
        if (what == 0) {
            return now.places.find(NAME, letters);
        }
        return what == 1 ? now.owners.find(NAME, letters) : NONE;
    }

    // ---- what was told, as it is now

    public int owner(int owner, int what) throws IndexOutOfBoundsException, NoSuchElementException {
        if (!now.owners.has(owner)) {
            throw new IndexOutOfBoundsException("no such owner");
        }
        switch (what) {
            case 0:
                return now.owners.at(owner, COIN);
            case 1:
                return now.owners.at(owner, HEIR);
            case 2:
                return freshAir().minutesOf(owner);
            case 3:
                return freshAir().trespasses(now, owner, NONE);
            case 4:
                return freshAir().trespasses(now, NONE, owner);
            default:
                throw new NoSuchElementException("no such thing of an owner");
        }
    }

    public int noise(int noise, int what) {
        return now.noises.at(noise, what);
    }

    public int claim(int claim, int what) {
        return now.claims.at(claim, what);
    }

    public int link(int link, int what) {
        return now.links.at(link, what);
    }

    public int far(int one, int other) {
        if (!now.places.has(one) || !now.places.has(other)) {
            return NONE;
        }
        return freshAir().way(one, other);
    }

    public long law(int what, int a, int b, int c) {
        if (!isLawNumber(a) || !isLawNumber(b) || !isLawNumber(c)) {
            return Law.ERROR;
        }
        if (what == 0) {
            return now.fade.value(a, b, c, 0, 0, 0);
        }
        return what == 1 ? now.worth.value(0, 0, 0, a, b, c) : Law.ERROR;
    }

    private static boolean isLawNumber(int number) {
        return number >= 0 && number <= Law.MOST;
    }

    // ---- silence, and whose it is

    public int heard(int place, int minute) {
        if (!now.places.has(place) || !isMinute(minute)) {
            return NONE;
        }
        int first = freshAir().firstHeard(now, place, minute);
        return first == NONE ? MISSING : first;
    }

    public long hush(int place) {
        return now.places.has(place) ? freshAir().silentAt(place) : NONE;
    }

    public int whose(int place, int minute) {
        if (!now.places.has(place) || !isMinute(minute)) {
            return NONE;
        }
        return freshAir().holder(place, minute);
    }

    public int spans() {
        return freshPieces().spans.size;
    }

    public int span(int k, int what) {
        if (k < 0 || what < 0 || what > 3) {
            return NONE;
        }
        Rows spans = freshPieces().spans;
        return spans.has(k) ? spans.at(k, what) : MISSING;
    }

    public int pieces() {
        return freshPieces().pieces.size;
    }

    public int piece(int k, int what) {
        if (k < 0 || what < 0 || what > 5) {
            return NONE;
        }
        Rows pieces = freshPieces().pieces;
        return pieces.has(k) ? pieces.at(k, what) : MISSING;
    }

    public int share(int piece, int owner) {
        if (piece < 0 || !now.owners.has(owner)) {
            return NONE;
        }
        if (!freshPieces().pieces.has(piece)) {
            return MISSING;
        }
        return nowPieces.minutesOf(nowAir, piece, owner);
    }

    public int part(int piece, int owner) {
        if (piece < 0 || !now.owners.has(owner)) {
            return NONE;
        }
        if (!freshPieces().pieces.has(piece)) {
            return MISSING;
        }
        return nowPieces.partOf(now, nowAir, piece, owner);
    }

    public int leaves(int piece) {
        if (piece < 0) {
            return NONE;
        }
        if (!freshPieces().pieces.has(piece)) {
            return MISSING;
        }
        return nowPieces.leaversOf(now, nowAir, piece);
    }

    // ---- changes

    public int make(int place, int owner, int from, int to, int loud) {
        if (!now.places.has(place) || !now.owners.has(owner) || now.noises.size >= NOISES) {
            return NONE;
        }
        if (!isMinute(from) || !isMinute(to) || to < from || loud < 1 || loud > LOUDEST) {
            return NONE;
        }
        int noise = now.noises.add(place, owner, from, to, loud);
        logged(MADE, noise, 0, 0, 0);
        return noise;
    }

    public boolean stop(int noise) {
        if (!now.noises.has(noise) || now.noises.at(noise, STOPPED) != 0) {
            return false;
        }
        now.noises.put(noise, STOPPED, 1);
        logged(HALTED, noise, 0, 0, 0);
        return true;
    }

    public boolean wall(int link, boolean is) {
        int wanted = is ? 1 : 0;
        if (!now.links.has(link) || now.links.at(link, WALLED) == wanted) {
            return false;
        }
        now.links.put(link, WALLED, wanted);
        logged(BUILT, link, 1 - wanted, 0, 0);
        return true;
    }

    public boolean sell(int claim, int owner, int price) {
        if (!now.claims.has(claim) || !now.owners.has(owner) || price < 0 || price > 999) {
            return false;
        }
        int seller = now.claims.at(claim, HOLDER);
        if (seller == owner || now.owners.at(owner, COIN) < price) {
            return false;
        }
        now.claims.put(claim, HOLDER, owner);
        now.pay(owner, seller, price);
        logged(SOLD, claim, seller, owner, price);
        return true;
    }

    public int go(int n) {
        if (n < 0 || n > DAY - now.minute) {
            return NONE;
        }
        for (int gone = 0; gone < n; gone++) {
            freshAir().fineMinute(now, now.minute);
            now.minute++;
        }
        if (n > 0) {
            log.clear();
        }
        return now.minute;
    }

    // ---- tasks, walls and dogs

    public int plan() {
        planner.search(now, freshAir());
        return planner.bestEnd;
    }

    public int planned(int k, int what) {
        if (k < 0 || what < 0 || what > 1) {
            return NONE;
        }
        planner.search(now, freshAir());
        if (planner.bestEnd < 0 || k >= now.tasks.size) {
            return MISSING;
        }
        return what == 0 ? planner.taskAt(k) : planner.startAt(k);
    }

    public int walls(int noise, int place) {
        if (!now.noises.has(noise) || !now.places.has(place)) {
            return NONE;
        }
        if (now.noises.at(noise, STOPPED) != 0) {
            return 0;
        }
        trial.copyFrom(now);
        for (int way = 0; way <= FARTHEST; way++) {
            heardFrom[way] = NONE;
        }
        int best = MISSING;
        int fewest = LINKS + 1;
        for (int bits = 0; bits < 1 << now.links.size; bits++) {
            int many = Integer.bitCount(bits);
            if (many < fewest && buildOnTrial(bits) && !trialReaches(noise, place)) {
                best = bits;
                fewest = many;
            }
        }
        return best;
    }

    /** Puts walls on the trial as now, and those of bits; false if a link of bits has one already. */
    private boolean buildOnTrial(int bits) {
        for (int link = 0; link < now.links.size; link++) {
            int had = now.links.at(link, WALLED);
            int wanted = bits >> link & 1;
            if (had == 1 && wanted == 1) {
                return false;
            }
            trial.links.put(link, WALLED, had + wanted);
        }
        return true;
    }

    /** Whether the noise is heard on the trial; of each way's length, which is all that matters, asked once. */
    private boolean trialReaches(int noise, int place) {
        trialAir.measureWays(trial, NONE);
        Rows noises = trial.noises;
        int site = noises.at(noise, SITE);
        int way = trialAir.way(site, place);
        if (way < 0 || way > FARTHEST) {
            return false;
        }
        if (heardFrom[way] == NONE) {
            long bits = trialAir.minutesHeard(trial, site, noises.at(noise, FROM), noises.at(noise, TO),
                    noises.at(noise, LOUD), place);
            heardFrom[way] = bits == 0 ? 0 : 1;
        }
        return heardFrom[way] == 1;
    }

    public int bark(int dogs, int what) {
        if (dogs < 0 || what < 0 || what > 2 || (dogs & ~now.dogs()) != 0) {
            return NONE;
        }
        for (int state = 0; state < STATES; state++) {
            barkedAt[state] = NONE;
        }
        Air air = freshAir();
        int barking = dogs;
        int most = 0;
        int minute = 0;
        while (minute <= STATES && isState(barking) && barkedAt[barking] == NONE) {
            barkedAt[barking] = minute;
            most = Math.max(most, Integer.bitCount(barking));
            barking = answering(air, barking);
            minute++;
        }
        if (what == 2) {
            return most;
        }
        if (!isState(barking)) {
            return what == 0 ? minute : 0;
        }
        return what == 0 ? MISSING : minute - barkedAt[barking];
    }

    /** Whether any dogs bark, and only such as there may be. */
    private static boolean isState(int barking) {
        return barking > 0 && barking < STATES;
    }

    /** The dogs that bark a minute after those of barking do. */
    private int answering(Air air, int barking) {
        int next = 0;
        for (int place = 0; place < now.places.size; place++) {
            int ear = now.places.at(place, EAR);
            if (ear > 0 && (barking >> place & 1) == 0 && hearsAny(air, place, ear, barking)) {
                next |= 1 << place;
            }
        }
        return next;
    }

    private boolean hearsAny(Air air, int place, int ear, int barking) {
        for (int other = 0; other < now.places.size; other++) {
            int way = air.way(other, place);
            if ((barking >> other & 1) == 1 && way != MISSING && way <= ear) {
                return true;
            }
        }
        return false;
    }

    // ---- notes and thieves

    public int note(int place, int minute, boolean noisy) {
        if (!now.places.has(place) || !isMinute(minute)) {
            return NONE;
        }
        return notes.rows.add(noisy ? Notes.NOISY : Notes.QUIET, place, minute, 0, 0);
    }

    public int strike(int note) {
        if (!notes.rows.has(note)) {
            return NONE;
        }
        return notes.rows.add(Notes.STRIKE, note, 0, 0, 0);
    }

    public boolean known(int n) {
        if (n < NONE || n > notes.rows.size) {
            return false;
        }
        notes.knownBy = n;
        return true;
    }

    public int thieves() {
        return notes.seek(now, freshAir(), Integer.MAX_VALUE);
    }

    public int thief(int k, int what) {
        if (k < 0 || what < 0 || what > 2) {
            return NONE;
        }
        if (notes.seek(now, freshAir(), k) <= k) {
            return MISSING;
        }
        if (what == 0) {
            return notes.foundPlace;
        }
        return what == 1 ? notes.foundMinute : notes.foundLoud;
    }

    // ---- heirs, waits, years, trials

    public int left(int owner, int law) {
        if (!now.owners.has(owner) || law < 0 || law > 2) {
            return NONE;
        }
        trial.copyFrom(now);
        trial.claims.clear();
        for (int claim = 0; claim < now.claims.size; claim++) {
            inherit(claim, owner, law);
        }
        measureTrial(NONE);
        return trialAir.longestHeld(trial);
    }

    /** Puts on the trial what becomes of a claim by the death of an owner. */
    private void inherit(int claim, int dead, int law) {
        int holder = now.claims.at(claim, HOLDER);
        int place = now.claims.at(claim, GROUND);
        int from = now.claims.at(claim, FROM);
        int to = now.claims.at(claim, TO);
        int heir = now.owners.at(dead, HEIR);
        if (holder != dead) {
            trial.claims.add(holder, place, from, to, 0);
        } else if (law == 0 && heir != NONE) {
            trial.claims.add(heir, place, from, to, 0);
        } else if (law == 1 && heir != NONE) {
            int second = now.owners.at(heir, HEIR);
            int cut = from + (to - from + 1) / 2;
            if (cut > from) {
                trial.claims.add(heir, place, from, cut - 1, 0);
            }
            trial.claims.add(second == NONE || second == dead ? heir : second, place, cut, to, 0);
        }
    }

    public int rests(int prize, int one, int other) {
        if (!isStake(prize) || !isStake(one) || !isStake(other)) {
            return NONE;
        }
        int many = 0;
        for (int pair = 0; pair < 100; pair++) {
            if (isRest(prize, one, other, pair)) {
                many++;
            }
        }
        return many;
    }

    public int rest(int prize, int one, int other, int k) {
        if (!isStake(prize) || !isStake(one) || !isStake(other) || k < 0) {
            return NONE;
        }
        int many = 0;
        for (int pair = 0; pair < 100; pair++) {
            if (isRest(prize, one, other, pair)) {
                if (many == k) {
                    return pair;
                }
                many++;
            }
        }
        return MISSING;
    }

    private static boolean isStake(int number) {
        return number >= 0 && number <= 99;
    }

    private static boolean isRest(int prize, int one, int other, int pair) {
        int first = pair / 10;
        int second = pair % 10;
        int firstHas = gain(prize, one, first, second);
        int secondHas = gain(prize, other, second, first);
        for (int said = 0; said < 10; said++) {
            if (gain(prize, one, said, second) > firstHas || gain(prize, other, said, first) > secondHas) {
                return false;
            }
        }
        return true;
    }

    private static int gain(int prize, int cost, int mine, int theirs) {
        int paid = cost * Math.min(mine, theirs);
        if (mine == theirs) {
            return prize / 2 - paid;
        }
        return mine > theirs ? prize - paid : -paid;
    }

    public int year(int seed, int n) {
        if (seed < 0 || n < 0 || n > 20) {
            return NONE;
        }
        int calm = freshAir().silentMinutes();
        int snowy = tried(3, 0);
        int many = now.places.size;
        int number = seed;
        int sum = 0;
        for (int day = 0; day < n; day++) {
            number = nextNumber(number);
            int kind = (number >> 16) % 3;
            if (kind == 0) {
                sum += snowy;
            } else if (kind == 1 && many > 0 && now.owners.size > 0) {
                int placeNumber = nextNumber(number);
                // Who quarrels changes no silence, but a number is drawn for it.
                number = nextNumber(nextNumber(placeNumber));
                sum += quarrelled((placeNumber >> 16) % many, (number >> 16) % 44);
            } else {
                sum += calm;
            }
        }
        return sum;
    }

    private static int nextNumber(int number) {
        return number * 1103515245 + 12345 & Integer.MAX_VALUE;
    }

    /** The silent minutes of a day with one more noise of a quarrel. */
    private int quarrelled(int place, int from) {
        int sum = 0;
        for (int other = 0; other < now.places.size; other++) {
            long loud = nowAir.minutesHeard(now, place, from, from + 3, 10, other);
            sum += Long.bitCount(nowAir.silentAt(other) & ~loud);
        }
        return sum;
    }

    public int tried(int what, int i) {
        if (!canTry(what, i)) {
            return NONE;
        }
        trial.copyFrom(now);
        switch (what) {
            case 0:
                for (int link = 0; link < trial.links.size; link++) {
                    trial.links.put(link, WALLED, 0);
                }
                break;
            case 1:
                trial.noises.put(i, STOPPED, 1);
                break;
            case 2:
                trial.silence(i);
                break;
            case 3:
                trial.muffle();
                break;
            case 5:
                trial.noises.add(i, NONE, 0, DAY - 1, 8);
                break;
            default:
                break;
        }
        measureTrial(what == 4 ? i : NONE);
        return trialAir.silentMinutes();
    }

    private boolean canTry(int what, int i) {
        switch (what) {
            case 0:
            case 3:
                return i == 0;
            case 1:
                return now.noises.has(i);
            case 2:
                return now.owners.has(i);
            case 4:
                return now.links.has(i);
            case 5:
                return now.places.has(i);
            default:
                return false;
        }
    }

    private void measureTrial(int goneLink) {
        trialAir.measureWays(trial, goneLink);
        trialAir.listen(trial);
        trialAir.settle(trial);
    }

    // ---- undone, images, counts

    public int undo() {
        if (log.size == 0) {
            return NONE;
        }
        int last = log.size - 1;
        int what = log.at(last, 1);
        int before = log.at(last, 2);
        switch (log.at(last, 0)) {
            case MADE:
                now.noises.removeLast();
                break;
            case HALTED:
                now.noises.put(what, STOPPED, 0);
                break;
            case BUILT:
                now.links.put(what, WALLED, before);
                break;
            default:
                now.claims.put(what, HOLDER, before);
                now.pay(before, log.at(last, 3), log.at(last, 4));
                break;
        }
        log.removeLast();
        changed();
        return log.size;
    }

    private void logged(int kind, int what, int before, int after, int price) {
        if (log.isFull()) {
            log.removeFirst();
        }
        log.add(kind, what, before, after, price);
        changed();
    }

    public int keep() {
        image.copyFrom(now);
        kept = true;
        return now.minute;
    }

    public int back() {
        if (!kept) {
            return NONE;
        }
        now.copyFrom(image);
        log.clear();
        changed();
        return now.minute;
    }

    public int count(int what) {
        switch (what) {
            case 0:
                return now.places.size;
            case 1:
                return now.links.size;
            case 2:
                return now.owners.size;
            case 3:
                return now.noises.size;
            case 4:
                return now.claims.size;
            case 5:
                return now.tasks.size;
            case 6:
                return Integer.bitCount(now.dogs());
            case 7:
                return now.fade.size + now.worth.size;
            case 8:
                return now.minute;
            case 9:
                return notes.rows.size;
            case 10:
                return notes.knownMany();
            case 11:
                return log.size;
            case 12:
                return now.links.sum(WALLED);
            case 13:
                return freshAir().trespasses(now, NONE, NONE);
            case 14:
                return now.owners.sum(COIN);
            case 15:
                return freshAir().silentMinutes();
            default:
                return NONE;
        }
    }

    // ---- what is worked out once after each change

    private void changed() {
        airFresh = false;
        piecesFresh = false;
    }

    private Air freshAir() {
        if (!airFresh) {
            nowAir.measureWays(now, NONE);
            nowAir.listen(now);
            nowAir.settle(now);
            airFresh = true;
        }
        return nowAir;
    }

    private Pieces freshPieces() {
        if (!piecesFresh) {
            freshAir();
            nowPieces.findSpans(now, nowAir);
            nowPieces.joinSpans(now);
            nowPieces.weigh(now, nowAir);
            piecesFresh = true;
        }
        return nowPieces;
    }

    private static boolean isMinute(int minute) {
        return minute >= 0 && minute < DAY;
    }

    /** Rows of numbers in one array, made once and used again; a row or column that isn't there reads NONE. */
    private static final class Rows {
        private final int width;
        private final int most;
        private final int[] cells;
        private int size;

        Rows(int width, int most) {
            this.width = width;
            this.most = most;
            this.cells = new int[width * most];
        }

        boolean has(int row) {
            return row >= 0 && row < size;
        }

        boolean isFull() {
            return size >= most;
        }

        int at(int row, int column) {
            return has(row) && column >= 0 && column < width ? cells[row * width + column] : NONE;
        }

        void put(int row, int column, int value) {
            if (has(row) && column >= 0 && column < width) {
                cells[row * width + column] = value;
            }
        }

        /** One more row of these numbers, as many as it is wide, 0 behind them: its number, NONE if full. */
        int add(int a, int b, int c, int d, int e) {
            if (isFull()) {
                return NONE;
            }
            int row = size;
            size++;
            put(row, 0, a);
            put(row, 1, b);
            put(row, 2, c);
            put(row, 3, d);
            put(row, 4, e);
            put(row, 5, 0);
            return row;
        }

        void removeLast() {
            if (size > 0) {
                size--;
            }
        }

        void removeFirst() {
            if (size > 0) {
                System.arraycopy(cells, width, cells, 0, (size - 1) * width);
                size--;
            }
        }

        void clear() {
            size = 0;
        }

        /** The first row with this value in a column, or NONE. */
        int find(int column, int value) {
            for (int row = 0; row < size; row++) {
                if (at(row, column) == value) {
                    return row;
                }
            }
            return NONE;
        }

        int sum(int column) {
            int sum = 0;
            for (int row = 0; row < size; row++) {
                sum += at(row, column);
            }
            return sum;
        }

        void copyFrom(Rows other) {
            int length = Math.min(cells.length, other.cells.length);
            System.arraycopy(other.cells, 0, cells, 0, length);
            size = other.size;
        }
    }

    /** A law's E, kept with each sign behind what it joins. */
    private static final class Law {
        static final long ERROR = Long.MIN_VALUE;
        static final int MOST = 9999;
        private static final long LIMIT = 1000000000000L;

        static final int OR = 0;
        static final int AND = 1;
        static final int NOT = 2;
        static final int LESS = 3;
        static final int AT_MOST = 4;
        static final int LIKE = 5;
        static final int UNLIKE = 6;
        static final int AT_LEAST = 7;
        static final int MORE = 8;
        static final int PLUS = 9;
        static final int MINUS = 10;
        static final int TIMES = 11;
        static final int BY = 12;
        static final int OPEN = 13;

        static final int MINUTE_NAME = 2;
        static final int NAMES = 6;

        // A knot is a number as it is, a name from FIRST_NAME down, a sign from FIRST_SIGN down.
        static final int FIRST_NAME = -1;
        static final int FIRST_SIGN = -10;

        private final int[] knots = new int[KNOTS];
        private final long[] stack = new long[KNOTS];
        private final long[] names = new long[NAMES];
        private int size;
        /** Whether the minute matters. */
        private boolean timed;

        void clear() {
            size = 0;
            timed = false;
        }

        void copyFrom(Law other) {
            System.arraycopy(other.knots, 0, knots, 0, KNOTS);
            size = other.size;
            timed = other.timed;
        }

        void add(int knot) {
            timed = timed || knot == FIRST_NAME - MINUTE_NAME;
            if (size < KNOTS) {
                knots[size] = knot;
                size++;
            }
        }

        /** The value by these names; ERROR, too, if no such law is told. */
        long value(int loud, int far, int minute, int lengthy, int many, int who) {
            names[0] = loud;
            names[1] = far;
            names[MINUTE_NAME] = minute;
            names[3] = lengthy;
            names[4] = many;
            names[5] = who;
            int top = -1;
            for (int i = 0; i < size; i++) {
                int knot = knots[i];
                int sign = FIRST_SIGN - knot;
                if (knot >= 0 || sign < 0) {
                    top++;
                    if (top >= KNOTS || knot <= FIRST_NAME - NAMES) {
                        return ERROR;
                    }
                    stack[top] = knot >= 0 ? knot : names[FIRST_NAME - knot];
                } else if (sign == NOT && top >= 0) {
                    stack[top] = stack[top] == 0 ? 1 : 0;
                } else {
                    if (top < 1) {
                        return ERROR;
                    }
                    top--;
                    stack[top] = joined(sign, stack[top], stack[top + 1]);
                    if (stack[top] == ERROR) {
                        return ERROR;
                    }
                }
            }
            return top == 0 ? stack[0] : ERROR;
        }

        private static long joined(int sign, long a, long b) {
            long result;
            switch (sign) {
                case OR:
                    return a != 0 || b != 0 ? 1 : 0;
                case AND:
                    return a != 0 && b != 0 ? 1 : 0;
                case LESS:
                    return a < b ? 1 : 0;
                case AT_MOST:
                    return a <= b ? 1 : 0;
                case LIKE:
                    return a == b ? 1 : 0;
                case UNLIKE:
                    return a != b ? 1 : 0;
                case AT_LEAST:
                    return a >= b ? 1 : 0;
                case MORE:
                    return a > b ? 1 : 0;
                case PLUS:
                    result = a + b;
                    break;
                case MINUS:
                    result = a - b;
                    break;
                case TIMES:
                    // Asked by division, since the product may not fit a long.
                    if (b != 0 && (a < 0 ? -a : a) > LIMIT / (b < 0 ? -b : b)) {
                        return ERROR;
                    }
                    result = a * b;
                    break;
                default:
                    if (b == 0) {
                        return ERROR;
                    }
                    result = a / b;
                    break;
            }
            return result > LIMIT || result < -LIMIT ? ERROR : result;
        }
    }

    /** All that a text tells and that calls change, but for notes. */
    private static final class World {
        private static final int WALL_UNTOLD = 5;
        private static final int FINE_UNTOLD = 1;

        private final Rows places = new Rows(2, PLACES);
        private final Rows links = new Rows(4, LINKS);
        private final Rows owners = new Rows(3, OWNERS);
        // One more than calls may make: a trial adds a noise.
        private final Rows noises = new Rows(6, NOISES + 1);
        // Twice as many as told: a trial cuts claims in halves.
        private final Rows claims = new Rows(4, 2 * CLAIMS);
        private final Rows rights = new Rows(4, RIGHTS);
        private final Rows tasks = new Rows(4, TASKS);
        private final Law fade = new Law();
        private final Law worth = new Law();
        private int wallLength = WALL_UNTOLD;
        private int fine = FINE_UNTOLD;
        private int minute;
        private int lines;

        void clear() {
            places.clear();
            links.clear();
            owners.clear();
            noises.clear();
            claims.clear();
            rights.clear();
            tasks.clear();
            fade.clear();
            worth.clear();
            wallLength = WALL_UNTOLD;
            fine = FINE_UNTOLD;
            minute = 0;
            lines = 0;
        }

        void copyFrom(World other) {
            places.copyFrom(other.places);
            links.copyFrom(other.links);
            owners.copyFrom(other.owners);
            noises.copyFrom(other.noises);
            claims.copyFrom(other.claims);
            rights.copyFrom(other.rights);
            tasks.copyFrom(other.tasks);
            fade.copyFrom(other.fade);
            worth.copyFrom(other.worth);
            wallLength = other.wallLength;
            fine = other.fine;
            minute = other.minute;
            lines = other.lines;
        }

        /** The places with a dog, as bits. */
        int dogs() {
            int bits = 0;
            for (int place = 0; place < places.size; place++) {
                if (places.at(place, EAR) > 0) {
                    bits |= 1 << place;
                }
            }
            return bits;
        }

        void pay(int from, int to, int price) {
            owners.put(from, COIN, owners.at(from, COIN) - price);
            owners.put(to, COIN, owners.at(to, COIN) + price);
        }

        boolean hasRight(int owner, int place, int minute) {
            for (int right = 0; right < rights.size; right++) {
                if (rights.at(right, HOLDER) == owner && rights.at(right, GROUND) == place
                        && rights.at(right, FROM) <= minute && rights.at(right, TO) >= minute) {
                    return true;
                }
            }
            return false;
        }

        /** An owner makes no noise any more. */
        void silence(int owner) {
            for (int noise = 0; noise < noises.size; noise++) {
                if (noises.at(noise, MAKER) == owner) {
                    noises.put(noise, STOPPED, 1);
                }
            }
        }

        /** All noises are 5 less loud, as under snow. */
        void muffle() {
            for (int noise = 0; noise < noises.size; noise++) {
                int loud = noises.at(noise, LOUD) - 5;
                noises.put(noise, LOUD, loud);
                if (loud < 1) {
                    noises.put(noise, STOPPED, 1);
                }
            }
        }
    }

    /** The tokens of a text, one after another. */
    private static final class Scanner {
        static final int END = 0;
        static final int STRANGE = 1;
        static final int NUMBER = 2;
        static final int WORD = 3;
        static final int TONGUE = 4;
        static final int SIGN = 5;

        static final int AT_MOST = 256;
        static final int UNLIKE = 257;
        static final int AT_LEAST = 258;

        // The words of the language; their numbers are the constants below.
        private static final String WORDS =
                "place link owner heir noise claim right task dog wall fine seed law fade worth or and not loud far minute long many who ";
        static final int PLACE = 0;
        static final int LINK = 1;
        static final int OWNER = 2;
        static final int HEIR_OF = 3;
        static final int NOISE = 4;
        static final int CLAIM = 5;
        static final int RIGHT = 6;
        static final int TASK = 7;
        static final int DOG = 8;
        static final int WALL = 9;
        static final int FINE = 10;
        static final int SEED = 11;
        static final int LAW = 12;
        static final int FADE = 13;
        static final int WORTH = 14;
        static final int OR = 15;
        static final int AND = 16;
        static final int NOT = 17;
        static final int FIRST_NAME = 18;
        private static final int ALL_WORDS = 24;
        private static final int LETTERS = 6;
        private static final int HUGE = 1000000;

        private final int[] tongue = new int[ALL_WORDS];
        private byte[] text;
        private int length;
        private int next;
        private int kind;
        /** Where the token begins. */
        private int at;
        /** A number, a word's letters, the number of a word of the language, or a sign. */
        private int value;

        Scanner() {
            int word = 0;
            int start = 0;
            for (int i = 0; i < WORDS.length(); i++) {
                if (WORDS.charAt(i) == ' ') {
                    if (word < ALL_WORDS) {
                        tongue[word] <<= 5 * (LETTERS - (i - start));
                    }
                    word++;
                    start = i + 1;
                } else if (word < ALL_WORDS) {
                    tongue[word] = tongue[word] << 5 | WORDS.charAt(i) - 'a' + 1;
                }
            }
        }

        void begin(byte[] bytes, int n) {
            text = bytes;
            length = n;
            next = 0;
        }

        private int signAt(int place) {
            return text != null && place >= 0 && place < length && place < text.length ? text[place] & 255 : NONE;
        }

        void advance() {
            while (next < length && (signAt(next) == 10 || signAt(next) == 32)) {
                next++;
            }
            at = next;
            int sign = signAt(next);
            if (next >= length) {
                kind = END;
            } else if (isLetter(sign)) {
                takeWord();
            } else if (isDigit(sign)) {
                takeNumber();
            } else {
                takeSign(sign);
            }
        }

        private static boolean isLetter(int sign) {
            return sign >= 'a' && sign <= 'z';
        }

        private static boolean isDigit(int sign) {
            return sign >= '0' && sign <= '9';
        }

        private void takeWord() {
            value = 0;
            while (next < length && isLetter(signAt(next))) {
                if (next - at < LETTERS) {
                    value = value << 5 | signAt(next) - 'a' + 1;
                }
                next++;
            }
            if (next - at > LETTERS) {
                kind = STRANGE;
                return;
            }
            value <<= 5 * (LETTERS - (next - at));
            kind = WORD;
            for (int word = 0; word < ALL_WORDS; word++) {
                if (kind == WORD && tongue[word] == value) {
                    kind = TONGUE;
                    value = word;
                }
            }
        }

        private void takeNumber() {
            kind = NUMBER;
            value = 0;
            while (next < length && isDigit(signAt(next))) {
                value = Math.min(value * 10 + signAt(next) - '0', HUGE);
                next++;
            }
        }

        private void takeSign(int sign) {
            kind = SIGN;
            value = sign;
            next++;
            int behind = signAt(next);
            if (sign == '<' && behind == '=') {
                value = AT_MOST;
                next++;
            } else if (sign == '<' && behind == '>') {
                value = UNLIKE;
                next++;
            } else if (sign == '>' && behind == '=') {
                value = AT_LEAST;
                next++;
            } else if (";()+-*/<=>".indexOf((char) sign) < 0) {
                kind = STRANGE;
            }
        }

        boolean isWord(int word) {
            return kind == TONGUE && value == word;
        }

        boolean isSign(int sign) {
            return kind == SIGN && value == sign;
        }
    }

    /** Reads a text into a world, or finds its first fault. */
    private static final class Reader {
        private static final int MISPLACED = 1;
        private static final int TOO_MUCH = 2;
        private static final int TOLD_ALREADY = 3;
        private static final int UNTOLD = 4;
        private static final int WITH_ITSELF = 5;

        // What may be told once, with its number.
        private static final int WALL = 0;
        private static final int FINE = 1;
        private static final int SEED = 2;

        private static final int FAULTY = 0;
        private static final int OPERAND_NEXT = 1;
        private static final int SIGN_NEXT = 2;
        private static final int DEEPEST = 8;
        private static final int COMPARISON = 4;
        /** How tightly each sign of a law joins. */
        private static final int[] RANKS = {1, 2, 3, 4, 4, 4, 4, 4, 4, 5, 5, 6, 6, 0};

        private final Scanner scan = new Scanner();
        private final int[] cells = new int[5];
        private final int[] once = new int[3];
        private final int[] waiting = new int[KNOTS + DEEPEST];
        private int waitingMany;
        private int open;
        private int knots;
        private World world;
        private int faultKind;
        private int faultAt = NONE;

        boolean read(byte[] bytes, int n, World into) {
            scan.begin(bytes, n);
            world = into;
            world.clear();
            knots = 0;
            faultKind = 0;
            faultAt = NONE;
            for (int i = 0; i < once.length; i++) {
                once[i] = NONE;
            }
            for (int line = 0; line <= TAPE; line++) {
                scan.advance();
                if (scan.kind == Scanner.END) {
                    world.lines = line;
                    world.wallLength = once[WALL] == NONE ? world.wallLength : once[WALL];
                    world.fine = once[FINE] == NONE ? world.fine : once[FINE];
                    return true;
                }
                if (!readLine()) {
                    return false;
                }
            }
            return refuse(MISPLACED);
        }

        private boolean refuse(int kind) {
            faultKind = kind;
            faultAt = scan.at;
            return false;
        }

        private boolean readLine() {
            switch (scan.kind == Scanner.TONGUE ? scan.value : NONE) {
                case Scanner.PLACE:
                    return readPlace();
                case Scanner.LINK:
                    return readLink();
                case Scanner.OWNER:
                    return readOwner();
                case Scanner.HEIR_OF:
                    return readHeir();
                case Scanner.NOISE:
                    return readNoise();
                case Scanner.CLAIM:
                    return readHolding(world.claims, CLAIMS);
                case Scanner.RIGHT:
                    return readHolding(world.rights, RIGHTS);
                case Scanner.TASK:
                    return readTask();
                case Scanner.DOG:
                    return readDog();
                case Scanner.WALL:
                    return readOnce(WALL, 1, 9);
                case Scanner.FINE:
                    return readOnce(FINE, 0, 9);
                case Scanner.SEED:
                    return readOnce(SEED, 0, 99999);
                case Scanner.LAW:
                    return readLaw();
                default:
                    return refuse(MISPLACED);
            }
        }

        // Each of these four goes on to the next token and looks at it; refuse() tells of that one.

        private boolean takeNewName(Rows names) {
            scan.advance();
            if (scan.kind != Scanner.WORD) {
                return refuse(MISPLACED);
            }
            cells[0] = scan.value;
            return names.find(NAME, scan.value) == NONE || refuse(TOLD_ALREADY);
        }

        private boolean takeTold(Rows names, int cell) {
            scan.advance();
            if (scan.kind != Scanner.WORD) {
                return refuse(MISPLACED);
            }
            cells[cell] = names.find(NAME, scan.value);
            return cells[cell] != NONE || refuse(UNTOLD);
        }

        private boolean takeNumber(int cell, int least, int most) {
            scan.advance();
            if (scan.kind != Scanner.NUMBER) {
                return refuse(MISPLACED);
            }
            cells[cell] = scan.value;
            return scan.value >= least && scan.value <= most || refuse(TOO_MUCH);
        }

        private boolean takeEnd() {
            scan.advance();
            return scan.isSign(';') || refuse(MISPLACED);
        }

        private boolean hasRoom(Rows rows, int most) {
            return rows.size < most || refuse(TOO_MUCH);
        }

        private boolean addRow(Rows rows) {
            rows.add(cells[0], cells[1], cells[2], cells[3], cells[4]);
            return true;
        }

        private boolean readPlace() {
            cells[EAR] = 0;
            return hasRoom(world.places, PLACES) && takeNewName(world.places) && takeEnd() && addRow(world.places);
        }

        private boolean readOwner() {
            cells[HEIR] = NONE;
            return hasRoom(world.owners, OWNERS) && takeNewName(world.owners) && takeNumber(COIN, 0, 999)
                    && takeEnd() && addRow(world.owners);
        }

        private boolean readLink() {
            if (!hasRoom(world.links, LINKS) || !takeTold(world.places, ONE) || !takeTold(world.places, OTHER)) {
                return false;
            }
            if (cells[ONE] == cells[OTHER]) {
                return refuse(WITH_ITSELF);
            }
            if (isLinked(cells[ONE], cells[OTHER]) || isLinked(cells[OTHER], cells[ONE])) {
                return refuse(TOLD_ALREADY);
            }
            cells[WALLED] = 0;
            return takeNumber(LENGTH, 1, 9) && takeEnd() && addRow(world.links);
        }

        private boolean isLinked(int one, int other) {
            for (int link = 0; link < world.links.size; link++) {
                if (world.links.at(link, ONE) == one && world.links.at(link, OTHER) == other) {
                    return true;
                }
            }
            return false;
        }

        private boolean readHeir() {
            if (!takeTold(world.owners, 0)) {
                return false;
            }
            if (world.owners.at(cells[0], HEIR) != NONE) {
                return refuse(TOLD_ALREADY);
            }
            if (!takeTold(world.owners, 1)) {
                return false;
            }
            if (cells[0] == cells[1]) {
                return refuse(WITH_ITSELF);
            }
            world.owners.put(cells[0], HEIR, cells[1]);
            return takeEnd();
        }

        private boolean readNoise() {
            return hasRoom(world.noises, NOISES_TOLD) && takeTold(world.places, SITE)
                    && takeTold(world.owners, MAKER) && takeNumber(FROM, 0, DAY - 1)
                    && takeNumber(TO, cells[FROM], DAY - 1) && takeNumber(LOUD, 1, LOUDEST)
                    && takeEnd() && addRow(world.noises);
        }

        private boolean readHolding(Rows rows, int most) {
            return hasRoom(rows, most) && takeTold(world.owners, HOLDER) && takeTold(world.places, GROUND)
                    && takeNumber(FROM, 0, DAY - 1) && takeNumber(TO, cells[FROM], DAY - 1)
                    && takeEnd() && addRow(rows);
        }

        private boolean readTask() {
            return hasRoom(world.tasks, TASKS) && takeTold(world.owners, HOLDER) && takeTold(world.places, GROUND)
                    && takeNumber(LASTS, 1, 12) && takeNumber(TASK_LOUD, 1, LOUDEST)
                    && takeEnd() && addRow(world.tasks);
        }

        private boolean readDog() {
            if (!takeTold(world.places, 0)) {
                return false;
            }
            if (world.places.at(cells[0], EAR) > 0) {
                return refuse(TOLD_ALREADY);
            }
            if (!takeNumber(1, 1, LOUDEST)) {
                return false;
            }
            world.places.put(cells[0], EAR, cells[1]);
            return takeEnd();
        }

        private boolean readOnce(int which, int least, int most) {
            if (once[which] != NONE) {
                return refuse(TOLD_ALREADY);
            }
            if (!takeNumber(0, least, most)) {
                return false;
            }
            once[which] = cells[0];
            return takeEnd();
        }

        private boolean readLaw() {
            scan.advance();
            if (!scan.isWord(Scanner.FADE) && !scan.isWord(Scanner.WORTH)) {
                return refuse(MISPLACED);
            }
            Law law = scan.isWord(Scanner.FADE) ? world.fade : world.worth;
            if (law.size > 0) {
                return refuse(TOLD_ALREADY);
            }
            waitingMany = 0;
            open = 0;
            int next = OPERAND_NEXT;
            for (int token = 0; token <= TAPE; token++) {
                scan.advance();
                if (next == SIGN_NEXT && open == 0 && scan.isSign(';')) {
                    release(law, 1);
                    return true;
                }
                next = next == OPERAND_NEXT ? readOperand(law) : readJoin(law);
                if (next == FAULTY) {
                    return false;
                }
            }
            return refuse(MISPLACED);
        }

        private int faulty(int kind) {
            refuse(kind);
            return FAULTY;
        }

        private int readOperand(Law law) {
            if (scan.isSign('(')) {
                if (open >= DEEPEST) {
                    return faulty(TOO_MUCH);
                }
                open++;
                return hold(Law.OPEN);
            }
            boolean isNot = scan.isWord(Scanner.NOT) && notMayStand();
            boolean isName = scan.kind == Scanner.TONGUE && scan.value >= Scanner.FIRST_NAME;
            if (!isNot && !isName && scan.kind != Scanner.NUMBER) {
                return faulty(MISPLACED);
            }
            if (knots >= KNOTS || !isNot && !isName && scan.value > Law.MOST) {
                return faulty(TOO_MUCH);
            }
            knots++;
            if (isNot) {
                return hold(Law.NOT);
            }
            if (isName) {
                law.add(Law.FIRST_NAME - (scan.value - Scanner.FIRST_NAME));
            } else {
                law.add(scan.value);
            }
            return SIGN_NEXT;
        }

        /** Behind a sign that joins more tightly, a not can't stand. */
        private boolean notMayStand() {
            return lastRank() <= RANKS[Law.NOT];
        }

        private int lastRank() {
            return waitingMany > 0 && waitingMany <= waiting.length ? RANKS[waiting[waitingMany - 1]] : 0;
        }

        private int hold(int sign) {
            if (waitingMany < waiting.length) {
                waiting[waitingMany] = sign;
                waitingMany++;
            }
            return OPERAND_NEXT;
        }

        /** The waiting signs that join at least as tightly as rank go to the law, the last one first. */
        private void release(Law law, int rank) {
            while (waitingMany > 0 && lastRank() >= rank) {
                waitingMany--;
                law.add(Law.FIRST_SIGN - waiting[waitingMany]);
            }
        }

        private int readJoin(Law law) {
            if (scan.isSign(')') && open > 0) {
                release(law, 1);
                waitingMany--;
                open--;
                return SIGN_NEXT;
            }
            int sign = joinSign();
            if (sign == NONE) {
                return faulty(MISPLACED);
            }
            int rank = RANKS[sign];
            release(law, rank == COMPARISON ? rank + 1 : rank);
            if (rank == COMPARISON && lastRank() == COMPARISON) {
                return faulty(MISPLACED);
            }
            if (knots >= KNOTS) {
                return faulty(TOO_MUCH);
            }
            knots++;
            return hold(sign);
        }

        private int joinSign() {
            if (scan.isWord(Scanner.OR)) {
                return Law.OR;
            }
            if (scan.isWord(Scanner.AND)) {
                return Law.AND;
            }
            switch (scan.kind == Scanner.SIGN ? scan.value : NONE) {
                case '<':
                    return Law.LESS;
                case Scanner.AT_MOST:
                    return Law.AT_MOST;
                case '=':
                    return Law.LIKE;
                case Scanner.UNLIKE:
                    return Law.UNLIKE;
                case Scanner.AT_LEAST:
                    return Law.AT_LEAST;
                case '>':
                    return Law.MORE;
                case '+':
                    return Law.PLUS;
                case '-':
                    return Law.MINUS;
                case '*':
                    return Law.TIMES;
                case '/':
                    return Law.BY;
                default:
                    return NONE;
            }
        }
    }

    /** How far places are, what is heard where and when, and whose each silent minute is. */
    private static final class Air {
        private static final int UNREACHED = 1000000;

        private final int[] ways = new int[PLACES * PLACES];
        private final long[] heardBits = new long[(NOISES + 1) * PLACES];
        private final long[] silent = new long[PLACES];
        private final int[] claimants = new int[PLACES * DAY];
        private final int[] holders = new int[PLACES * DAY];

        void measureWays(World world, int goneLink) {
            for (int i = 0; i < ways.length; i++) {
                ways[i] = i / PLACES == i % PLACES ? 0 : UNREACHED;
            }
            Rows links = world.links;
            for (int link = 0; link < links.size; link++) {
                int one = links.at(link, ONE);
                int other = links.at(link, OTHER);
                if (link != goneLink && world.places.has(one) && world.places.has(other)) {
                    int length = links.at(link, LENGTH) + links.at(link, WALLED) * world.wallLength;
                    ways[one * PLACES + other] = length;
                    ways[other * PLACES + one] = length;
                }
            }
            int many = Math.min(world.places.size, PLACES);
            for (int over = 0; over < many; over++) {
                for (int one = 0; one < many; one++) {
                    for (int other = 0; other < many; other++) {
                        int sum = ways[one * PLACES + over] + ways[over * PLACES + other];
                        if (sum < ways[one * PLACES + other]) {
                            ways[one * PLACES + other] = sum;
                        }
                    }
                }
            }
        }

        /** FAR of two places, MISSING without a way. */
        int way(int one, int other) {
            if (one < 0 || one >= PLACES || other < 0 || other >= PLACES) {
                return MISSING;
            }
            int way = ways[one * PLACES + other];
            return way < UNREACHED ? way : MISSING;
        }

        /** The minutes at which such a noise at a place is heard at another one, as bits. */
        long minutesHeard(World world, int place, int from, int to, int loud, int other) {
            int way = way(place, other);
            if (way == MISSING || from > to) {
                return 0;
            }
            long bits = 0;
            for (int minute = from; minute <= to; minute++) {
                long remains = world.fade.value(loud, way, minute, 0, 0, 0);
                if (remains == Law.ERROR) {
                    remains = loud - way;
                }
                if (!world.fade.timed) {
                    return remains >= 1 ? (1L << to - from + 1) - 1 << from : 0;
                }
                if (remains >= 1) {
                    bits |= 1L << minute;
                }
            }
            return bits;
        }

        void listen(World world) {
            for (int place = 0; place < PLACES; place++) {
                silent[place] = world.places.has(place) ? ALL_DAY : 0;
            }
            Rows noises = world.noises;
            for (int noise = 0; noise < noises.size && noise <= NOISES; noise++) {
                for (int place = 0; place < world.places.size && place < PLACES; place++) {
                    long bits = minutesHeard(world, noises.at(noise, SITE), noises.at(noise, FROM),
                            noises.at(noise, TO), noises.at(noise, LOUD), place);
                    bits = noises.at(noise, STOPPED) == 0 ? bits : 0;
                    heardBits[noise * PLACES + place] = bits;
                    silent[place] &= ~bits;
                }
            }
        }

        /** Finds by whom each minute is claimed and whose each silent one is. */
        void settle(World world) {
            for (int i = 0; i < claimants.length; i++) {
                claimants[i] = NONE;
            }
            // From the last claim on, so that the first one stays.
            for (int claim = world.claims.size - 1; claim >= 0; claim--) {
                int row = world.claims.at(claim, GROUND) * DAY;
                int to = world.claims.at(claim, TO);
                for (int minute = world.claims.at(claim, FROM); minute <= to; minute++) {
                    if (isMinute(minute) && row >= 0 && row < claimants.length) {
                        claimants[row + minute] = world.claims.at(claim, HOLDER);
                    }
                }
            }
            for (int place = 0; place < world.places.size && place < PLACES; place++) {
                settlePlace(world, place);
            }
        }

        private void settlePlace(World world, int place) {
            int latest = NOBODY;
            for (int minute = 0; minute < DAY; minute++) {
                int i = place * DAY + minute;
                if (!isSilent(place, minute)) {
                    latest = world.noises.at(firstHeard(world, place, minute), MAKER);
                    holders[i] = NOT_SILENT;
                } else {
                    holders[i] = claimants[i] == NONE ? latest : claimants[i];
                }
            }
        }

        private static boolean isSpot(int place, int minute) {
            return place >= 0 && place < PLACES && minute >= 0 && minute < DAY;
        }

        long silentAt(int place) {
            return place >= 0 && place < PLACES ? silent[place] : 0;
        }

        boolean isSilent(int place, int minute) {
            return (silentAt(place) >> minute & 1) == 1;
        }

        int silentMinutes() {
            int sum = 0;
            for (int place = 0; place < PLACES; place++) {
                sum += Long.bitCount(silent[place]);
            }
            return sum;
        }

        boolean isHeard(int noise, int place, int minute) {
            if (noise < 0 || noise > NOISES || place < 0 || place >= PLACES || minute < 0 || minute >= DAY) {
                return false;
            }
            return (heardBits[noise * PLACES + place] >> minute & 1) == 1;
        }

        /** The first noise heard, or NONE. */
        int firstHeard(World world, int place, int minute) {
            for (int noise = 0; noise < world.noises.size; noise++) {
                if (isHeard(noise, place, minute)) {
                    return noise;
                }
            }
            return NONE;
        }

        int holder(int place, int minute) {
            return isSpot(place, minute) ? holders[place * DAY + minute] : NONE;
        }

        /** How many silent minutes are an owner's. */
        int minutesOf(int owner) {
            int sum = 0;
            for (int place = 0; place < PLACES; place++) {
                for (int minute = 0; minute < DAY; minute++) {
                    if (isSilent(place, minute) && holder(place, minute) == owner) {
                        sum++;
                    }
                }
            }
            return sum;
        }

        /** Whether a noise by an owner, if it is heard, is trespass. */
        boolean isForbidden(World world, int maker, int place, int minute) {
            if (!isSpot(place, minute)) {
                return false;
            }
            int claimant = claimants[place * DAY + minute];
            return claimant != NONE && claimant != maker && !world.hasRight(maker, place, minute);
        }

        private boolean isTrespass(World world, int noise, int place, int minute) {
            return isHeard(noise, place, minute)
                    && isForbidden(world, world.noises.at(noise, MAKER), place, minute);
        }

        /** How many trespasses the day has, by one maker and on one owner's claims (NONE: anyone's). */
        int trespasses(World world, int maker, int sufferer) {
            int sum = 0;
            for (int spot = 0; spot < world.places.size * DAY && spot < claimants.length; spot++) {
                if (sufferer != NONE && claimants[spot] != sufferer) {
                    continue;
                }
                for (int noise = 0; noise < world.noises.size; noise++) {
                    boolean asked = maker == NONE || world.noises.at(noise, MAKER) == maker;
                    if (asked && isTrespass(world, noise, spot / DAY, spot % DAY)) {
                        sum++;
                    }
                }
            }
            return sum;
        }

        /** The trespasses of a minute are paid for. */
        void fineMinute(World world, int minute) {
            for (int place = 0; place < world.places.size; place++) {
                for (int noise = 0; noise < world.noises.size; noise++) {
                    if (isTrespass(world, noise, place, minute)) {
                        int maker = world.noises.at(noise, MAKER);
                        int price = Math.min(world.fine, world.owners.at(maker, COIN));
                        world.pay(maker, claimants[place * DAY + minute], price);
                    }
                }
            }
        }

        /** The longest row of silent minutes at a place that are one owner's. */
        int longestHeld(World world) {
            int longest = 0;
            for (int place = 0; place < world.places.size; place++) {
                int row = 0;
                int before = NOBODY;
                for (int minute = 0; minute < DAY; minute++) {
                    int holder = holder(place, minute);
                    row = holder < 0 ? 0 : holder == before ? row + 1 : 1;
                    before = holder;
                    longest = Math.max(longest, row);
                }
            }
            return longest;
        }
    }

    /** The spans, the pieces they make, and what these are worth to their owners. */
    private static final class Pieces {
        // A silent minute and a noisy one by turns at each place.
        private static final int MOST = PLACES * DAY / 2;
        private static final int SETS = 1 << OWNERS;
        private static final int[] ORDERS = {1, 1, 2, 6, 24};

        // The columns of a span that aren't those of a claim, and of a piece.
        private static final int SPAN_FROM = 1;
        private static final int SPAN_TO = 2;
        private static final int PIECE = 3;
        private static final int HOLDERS = 2;
        private static final int WORTH = 3;

        private final Rows spans = new Rows(4, MOST);
        private final Rows pieces = new Rows(6, MOST);
        /** Of each place the places behind links without walls, as bits. */
        private final int[] beside = new int[PLACES];
        private final int[] reached = new int[MOST];
        // Of each owner in the piece last surveyed: minutes, places as bits, the first minute.
        private final int[] minutes = new int[OWNERS];
        private final int[] grounds = new int[OWNERS];
        private final int[] firsts = new int[OWNERS];

        void findSpans(World world, Air air) {
            spans.clear();
            for (int place = 0; place < world.places.size; place++) {
                int from = NONE;
                for (int minute = 0; minute <= DAY; minute++) {
                    boolean silent = minute < DAY && air.isSilent(place, minute);
                    if (silent && from == NONE) {
                        from = minute;
                    } else if (!silent && from != NONE) {
                        spans.add(place, from, minute - 1, NONE, 0);
                        from = NONE;
                    }
                }
            }
        }

        void joinSpans(World world) {
            for (int place = 0; place < PLACES; place++) {
                beside[place] = 0;
            }
            for (int link = 0; link < world.links.size; link++) {
                int one = world.links.at(link, ONE);
                int other = world.links.at(link, OTHER);
                if (world.links.at(link, WALLED) == 0 && world.places.has(one) && world.places.has(other)) {
                    beside[one] |= 1 << other;
                    beside[other] |= 1 << one;
                }
            }
            pieces.clear();
            for (int span = 0; span < spans.size; span++) {
                if (spans.at(span, PIECE) == NONE) {
                    spread(span, pieces.add(0, 0, 0, 0, 0));
                }
            }
        }

        /** All spans that touch this one, straight or by others, belong to the piece. */
        private void spread(int start, int piece) {
            int many = 0;
            reached[many++] = start;
            spans.put(start, PIECE, piece);
            for (int i = 0; i < many && i < MOST; i++) {
                for (int span = start + 1; span < spans.size && many < MOST; span++) {
                    if (spans.at(span, PIECE) == NONE && touch(reached[i], span)) {
                        spans.put(span, PIECE, piece);
                        reached[many++] = span;
                    }
                }
            }
        }

        private boolean touch(int one, int other) {
            int place = spans.at(one, SITE);
            return place >= 0 && place < PLACES && (beside[place] >> spans.at(other, SITE) & 1) == 1
                    && spans.at(one, SPAN_FROM) <= spans.at(other, SPAN_TO)
                    && spans.at(other, SPAN_FROM) <= spans.at(one, SPAN_TO);
        }

        void weigh(World world, Air air) {
            for (int piece = 0; piece < pieces.size; piece++) {
                survey(air, piece);
                int lengthy = 0;
                int places = 0;
                int first = DAY;
                int many = 0;
                for (int span = 0; span < spans.size; span++) {
                    if (spans.at(span, PIECE) == piece) {
                        lengthy += spans.at(span, SPAN_TO) - spans.at(span, SPAN_FROM) + 1;
                        places |= 1 << spans.at(span, SITE);
                        first = Math.min(first, spans.at(span, SPAN_FROM));
                        many++;
                    }
                }
                int holders = holdersSurveyed();
                int worth = worth(world, lengthy, Integer.bitCount(places), Integer.bitCount(holders), first);
                pieces.put(piece, 0, lengthy);
                pieces.put(piece, 1, Integer.bitCount(places));
                pieces.put(piece, HOLDERS, holders);
                pieces.put(piece, WORTH, worth);
                pieces.put(piece, 4, first);
                pieces.put(piece, 5, many);
            }
        }

        private static int worth(World world, int lengthy, int many, int who, int minute) {
            long value = world.worth.value(0, 0, minute, lengthy, many, who);
            if (value == Law.ERROR) {
                return lengthy;
            }
            return (int) Math.max(0, Math.min(value, 9999));
        }

        /** Finds what each owner has in a piece. */
        private void survey(Air air, int piece) {
            for (int owner = 0; owner < OWNERS; owner++) {
                minutes[owner] = 0;
                grounds[owner] = 0;
                firsts[owner] = DAY;
            }
            for (int span = 0; span < spans.size; span++) {
                if (spans.at(span, PIECE) == piece) {
                    surveySpan(air, span);
                }
            }
        }

        private void surveySpan(Air air, int span) {
            int place = spans.at(span, SITE);
            int to = spans.at(span, SPAN_TO);
            for (int minute = spans.at(span, SPAN_FROM); minute <= to; minute++) {
                int owner = air.holder(place, minute);
                if (owner >= 0 && owner < OWNERS) {
                    minutes[owner]++;
                    grounds[owner] |= 1 << place;
                    firsts[owner] = Math.min(firsts[owner], minute);
                }
            }
        }

        private int holdersSurveyed() {
            int bits = 0;
            for (int owner = 0; owner < OWNERS; owner++) {
                if (minutes[owner] > 0) {
                    bits |= 1 << owner;
                }
            }
            return bits;
        }

        private int minutesOfSet(int set) {
            int sum = 0;
            for (int owner = 0; owner < OWNERS; owner++) {
                sum += (set >> owner & 1) * minutes[owner];
            }
            return sum;
        }

        /** What the minutes of some owners in the surveyed piece are worth. */
        private int worthOfSet(World world, int set) {
            if (set == 0) {
                return 0;
            }
            int places = 0;
            int first = DAY;
            for (int owner = 0; owner < OWNERS; owner++) {
                if ((set >> owner & 1) == 1) {
                    places |= grounds[owner];
                    first = Math.min(first, firsts[owner]);
                }
            }
            return worth(world, minutesOfSet(set), Integer.bitCount(places), Integer.bitCount(set), first);
        }

        int minutesOf(Air air, int piece, int owner) {
            survey(air, piece);
            return minutesOfSet(1 << owner);
        }

        int partOf(World world, Air air, int piece, int owner) {
            survey(air, piece);
            int all = holdersSurveyed();
            int own = 1 << owner;
            if ((all & own) == 0) {
                return 0;
            }
            int others = Integer.bitCount(all) - 1;
            int sum = 0;
            for (int set = 0; set < SETS; set++) {
                int ahead = Integer.bitCount(set);
                if ((set & ~(all & ~own)) == 0 && ahead <= others) {
                    // So many orders have just these owners ahead of this one.
                    int orders = ORDERS[ahead] * ORDERS[others - ahead];
                    sum += orders * (worthOfSet(world, set | own) - worthOfSet(world, set));
                }
            }
            return sum;
        }

        int leaversOf(World world, Air air, int piece) {
            survey(air, piece);
            int all = holdersSurveyed();
            long whole = pieces.at(piece, WORTH);
            for (int set = 1; set < SETS; set++) {
                // Both sides times the minutes of all owners, so that nothing is cut.
                if ((set & ~all) == 0
                        && (long) worthOfSet(world, set) * minutesOfSet(all) > whole * minutesOfSet(set)) {
                    return set;
                }
            }
            return 0;
        }
    }

    /** Finds the order of tasks that trespasses nowhere and ends first. */
    private static final class Planner {
        private static final int MOST_ORDERS = 24;

        /** Of each task the minutes at which it would be trespass, as bits. */
        private final long[] shut = new long[TASKS];
        private final long[] busy = new long[OWNERS];
        private final int[] order = new int[TASKS];
        private final int[] starts = new int[TASKS];
        private final int[] bestOrder = new int[TASKS];
        private final int[] bestStarts = new int[TASKS];
        /** When the last task ends; NONE without tasks, MISSING without a plan. */
        private int bestEnd;

        void search(World world, Air air) {
            int many = Math.min(world.tasks.size, TASKS);
            bestEnd = many == 0 ? NONE : MISSING;
            for (int task = 0; task < many; task++) {
                shut[task] = forbiddenMinutes(world, air, task);
                order[task] = task;
            }
            boolean more = many > 0;
            for (int round = 0; round < MOST_ORDERS && more; round++) {
                int end = endOfOrder(world, many);
                if (end != MISSING && (bestEnd == MISSING || end < bestEnd)) {
                    bestEnd = end;
                    System.arraycopy(order, 0, bestOrder, 0, TASKS);
                    System.arraycopy(starts, 0, bestStarts, 0, TASKS);
                }
                more = nextOrder(many);
            }
        }

        int taskAt(int k) {
            return k >= 0 && k < TASKS ? bestOrder[k] : NONE;
        }

        int startAt(int k) {
            return k >= 0 && k < TASKS ? bestStarts[k] : NONE;
        }

        private static long forbiddenMinutes(World world, Air air, int task) {
            int owner = world.tasks.at(task, HOLDER);
            int ground = world.tasks.at(task, GROUND);
            int loud = world.tasks.at(task, TASK_LOUD);
            long bits = 0;
            for (int place = 0; place < world.places.size; place++) {
                long heard = air.minutesHeard(world, ground, 0, DAY - 1, loud, place);
                for (int minute = 0; minute < DAY; minute++) {
                    if ((heard >> minute & 1) == 1 && air.isForbidden(world, owner, place, minute)) {
                        bits |= 1L << minute;
                    }
                }
            }
            return bits;
        }

        /** Begins each task of the order as early as can be: the last end, or MISSING. */
        private int endOfOrder(World world, int many) {
            for (int owner = 0; owner < OWNERS; owner++) {
                busy[owner] = 0;
            }
            int last = 0;
            for (int k = 0; k < many && k < TASKS; k++) {
                int task = order[k];
                int owner = world.tasks.at(task, HOLDER);
                int lasts = world.tasks.at(task, LASTS);
                if (task < 0 || task >= TASKS || owner < 0 || owner >= OWNERS) {
                    return MISSING;
                }
                int start = earliest(shut[task] | busy[owner], lasts);
                if (start == MISSING) {
                    return MISSING;
                }
                starts[k] = start;
                busy[owner] |= (1L << lasts) - 1 << start;
                last = Math.max(last, start + lasts - 1);
            }
            return last;
        }

        private static int earliest(long taken, int lasts) {
            for (int start = 0; start + lasts <= DAY; start++) {
                if (((1L << lasts) - 1 << start & taken) == 0) {
                    return start;
                }
            }
            return MISSING;
        }

        /** The next order by numbers; false behind the last one. */
        private boolean nextOrder(int many) {
            int rise = many - 2;
            while (rise >= 0 && order[rise] > order[rise + 1]) {
                rise--;
            }
            if (rise < 0) {
                return false;
            }
            int above = many - 1;
            while (above > rise && order[above] < order[rise]) {
                above--;
            }
            swap(rise, above);
            int low = rise + 1;
            for (int high = many - 1; high > low; high--) {
                swap(low, high);
                low++;
            }
            return true;
        }

        private void swap(int one, int other) {
            int task = order[one];
            order[one] = order[other];
            order[other] = task;
        }
    }

    /** What was noted of noise and silence, and who may have spoken by it. */
    private static final class Notes {
        static final int QUIET = 0;
        static final int NOISY = 1;
        static final int STRIKE = 2;
        private static final int MOST = 24;

        // Of each note its kind, the place or the note that it strikes, the minute.
        private final Rows rows = new Rows(3, MOST);
        private final boolean[] struck = new boolean[MOST];
        /** Of each minute the places, as bits, at which the thief must be heard, and must not. */
        private final int[] needed = new int[DAY];
        private final int[] barred = new int[DAY];
        private int knownBy = NONE;
        private int foundPlace;
        private int foundMinute;
        private int foundLoud;

        void clear() {
            rows.clear();
            knownBy = NONE;
        }

        int knownMany() {
            return knownBy == NONE ? rows.size : knownBy;
        }

        /** How many thieves it may be; not further than the one of number k, who is then the found one. */
        int seek(World world, Air air, int k) {
            int onlyMinute = NONE;
            if (!sortNotes(air)) {
                return 0;
            }
            for (int minute = 0; minute < DAY; minute++) {
                if (needed[minute] != 0 && onlyMinute != NONE) {
                    return 0;
                }
                onlyMinute = needed[minute] != 0 ? minute : onlyMinute;
            }
            int many = 0;
            for (int spot = 0; spot < world.places.size * DAY && many <= k; spot++) {
                if (onlyMinute == NONE || onlyMinute == spot % DAY) {
                    many = seekAt(world, air, spot, many, k);
                }
            }
            return many;
        }

        private int seekAt(World world, Air air, int spot, int before, int k) {
            int many = before;
            for (int loud = 1; loud <= LOUDEST && many <= k; loud++) {
                if (fits(world, air, spot / DAY, spot % DAY, loud)) {
                    foundPlace = spot / DAY;
                    foundMinute = spot % DAY;
                    foundLoud = loud;
                    many++;
                }
            }
            return many;
        }

        /** Finds what the known notes ask of the thief; false if none can make them so. */
        private boolean sortNotes(Air air) {
            for (int minute = 0; minute < DAY; minute++) {
                needed[minute] = 0;
                barred[minute] = 0;
            }
            markStruck();
            for (int note = 0; note < knownMany() && note < MOST; note++) {
                int kind = rows.at(note, 0);
                int place = rows.at(note, 1);
                int minute = rows.at(note, 2);
                if (struck[note] || kind == STRIKE || minute < 0 || minute >= DAY) {
                    continue;
                }
                boolean silent = air.isSilent(place, minute);
                if (kind == QUIET && !silent) {
                    return false;
                }
                if (kind == QUIET) {
                    barred[minute] |= 1 << place;
                } else if (silent) {
                    needed[minute] |= 1 << place;
                }
            }
            return true;
        }

        private void markStruck() {
            for (int note = 0; note < MOST; note++) {
                struck[note] = false;
            }
            // From the last one on: a strike that is struck itself is known to be so when it is asked.
            for (int note = Math.min(knownMany(), MOST) - 1; note >= 0; note--) {
                int target = rows.at(note, 1);
                if (rows.at(note, 0) == STRIKE && !struck[note] && target >= 0 && target < MOST) {
                    struck[target] = true;
                }
            }
        }

        private boolean fits(World world, Air air, int place, int minute, int loud) {
            int asked = needed[minute] | barred[minute];
            for (int other = 0; other < world.places.size && asked != 0; other++) {
                if ((asked >> other & 1) == 1) {
                    boolean isHeard = air.minutesHeard(world, place, minute, minute, loud, other) != 0;
                    if (isHeard != ((needed[minute] >> other & 1) == 1)
                            || isHeard && (barred[minute] >> other & 1) == 1) {
                        return false;
                    }
                }
            }
            return true;
        }
    }
}
