/** Nodes that know but few others, and mix what they know by swapping slices of their views. */
public final class ShuffledViews {
    public static final int NONE = -1, UNKNOWN = -2, OUTSIDE = -3, NOT = -4, FULL = -5, NULL = -11, EMPTY = -12, ROOM = -13;

    private static final int LEAST_NODES = 2;
    private static final int MOST_NODES = 8;
    private static final int MOST_ENTRIES = 5;
    private static final int MOST_AGE = 99;
    private static final int MOST_SEED = 999;

    private static final int MOST_LETTER = 255;
    private static final int MOST_LETTERS = 200;
    private static final int MOST_CLAUSES = 24;
    private static final int MOST_DIGITS = 3;
    private static final int CLAUSE_NUMBERS = 4;

    private static final int TOKEN_END = 0;
    private static final int TOKEN_WORD = 1;
    private static final int TOKEN_NUMBER = 2;
    private static final int TOKEN_SEMICOLON = 3;
    private static final int TOKEN_OTHER = 4;

    private static final int FORM_NET = 0;
    private static final int FORM_DEAD = 1;
    private static final int FORM_SLY = 2;
    private static final int FORM_LINK = 3;
    private static final int FORM_CUT = 4;

    private static final int MOST_CYCLES_DONE = 20;
    private static final int MOST_CYCLES_FORETOLD = 60;
    private static final int MOST_UNDONE = 8;
    private static final int KEPT_NETS = 2;

    private static final int RINGS = 3;
    private static final int MOST_NUMBERS = 8;
    private static final int MOST_NUMBER = 999;
    private static final int MOST_STEPS = 99;
    private static final int MOST_COUNTED = 9;
    private static final int NUMBER_SHIFT = 5000;
    private static final int SUM_SHIFT = 50000;

    private final Text text = new Text();
    private final Clauses clauses = new Clauses();
    private final Net now = new Net();
    private final Net foreseen = new Net();
    private final Shuffle shuffle = new Shuffle();
    private final Past past = new Past();
    private final Net[] keptNets = new Net[KEPT_NETS];
    private final boolean[] isKept = new boolean[KEPT_NETS];
    private final Ring[] rings = new Ring[RINGS];

    public ShuffledViews() {
        for (int k = 0; k < KEPT_NETS; k++) {
            keptNets[k] = new Net();
        }
        for (int r = 0; r < RINGS; r++) {
            rings[r] = new Ring();
        }
    }

    // ---- what is told

    public int write(int letter) {
        if (letter < 0 || letter > MOST_LETTER) {
            return OUTSIDE;
        }
        if (text.length >= MOST_LETTERS) {
            return FULL;
        }
        text.append(letter);
        return text.length;
    }

    public int erase() {
        int length = text.length;
        text.clear();
        return length;
    }

    public int fault() {
        return clauses.read(text, now.nodes);
    }

    public int net() {
        if (clauses.read(text, now.nodes) != NONE) {
            return NOT;
        }
        clauses.doAll(now);
        text.clear();
        past.clear();
        for (int k = 0; k < KEPT_NETS; k++) {
            isKept[k] = false;
        }
        for (int r = 0; r < RINGS; r++) {
            rings[r].lose();
        }
        return clauses.size;
    }

    public int node(int node, int what) {
        if (!now.has(node)) {
            return UNKNOWN;
        }
        switch (what) {
            case 0: return now.isAlive(node) ? 1 : 0;
            case 1: return now.isSly(node) ? 1 : 0;
            case 2: return now.views[node].size;
            case 3: return now.known(node);
            case 4: return now.views[node].bits();
            default: return OUTSIDE;
        }
    }

    public int entry(int node, int k, int what) {
        if (!now.has(node)) {
            return UNKNOWN;
        }
        if (k < 0 || what < 0 || what > 1) {
            return OUTSIDE;
        }
        View view = now.views[node];
        if (k >= view.size) {
            return NONE;
        }
        return what == 0 ? view.nodes[k] : view.ages[k];
    }

    // ---- what is done

    public int round(int node) {
        if (!now.has(node)) {
            return UNKNOWN;
        }
        if (!now.isAlive(node)) {
            return NOT;
        }
        past.push(now);
        return shuffle.roundOf(now, node);
    }

    public int cycle(int n) {
        if (n < 1 || n > MOST_CYCLES_DONE) {
            return OUTSIDE;
        }
        past.push(now);
        shuffle.cyclesOf(now, n);
        return now.entries();
    }

    public int die(int node, int is) {
        if (!now.has(node)) {
            return UNKNOWN;
        }
        if (is < 0 || is > 1) {
            return OUTSIDE;
        }
        boolean alive = is == 0;
        if (now.isAlive(node) == alive) {
            return NOT;
        }
        past.push(now);
        now.setAlive(node, alive);
        return Integer.bitCount(now.alive);
    }

    public int link(int i, int j) {
        if (!now.hasTwo(i, j)) {
            return UNKNOWN;
        }
        View view = now.views[i];
        if (view.holds(j)) {
            return NOT;
        }
        if (view.size >= now.room) {
            return FULL;
        }
        past.push(now);
        view.append(j, 0);
        return view.size;
    }

    public int undo() {
        if (past.size == 0) {
            return NOT;
        }
        past.pop(now);
        return past.size;
    }

    public int keep(int k) {
        if (k < 0 || k >= KEPT_NETS) {
            return UNKNOWN;
        }
        keptNets[k].copyFrom(now);
        isKept[k] = true;
        return now.entries();
    }

    public int back(int k) {
        if (k < 0 || k >= KEPT_NETS) {
            return UNKNOWN;
        }
        if (!isKept[k]) {
            return NOT;
        }
        now.copyFrom(keptNets[k]);
        past.clear();
        return now.entries();
    }

    // ---- foretold: all of it is tried on the net foreseen, so that the net itself never changes

    public int forgotten(int node) {
        if (!now.has(node)) {
            return UNKNOWN;
        }
        if (now.isAlive(node)) {
            return NOT;
        }
        foreseen.copyFrom(now);
        for (int cycles = 0; cycles <= MOST_CYCLES_FORETOLD; cycles++) {
            if (foreseen.known(node) == 0) {
                return cycles;
            }
            shuffle.cyclesOf(foreseen, 1);
        }
        return NONE;
    }

    public int next(int node) {
        if (!now.has(node)) {
            return UNKNOWN;
        }
        if (!now.isAlive(node)) {
            return NOT;
        }
        foreseen.copyFrom(now);
        return shuffle.roundOf(foreseen, node);
    }

    public int spread(int n) {
        if (n < 0 || n > MOST_CYCLES_FORETOLD) {
            return OUTSIDE;
        }
        if (now.alive == 0) {
            return NOT;
        }
        foreseen.copyFrom(now);
        shuffle.cyclesOf(foreseen, n);
        return foreseen.mostKnown() - foreseen.leastKnown();
    }

    public int far(int from, int to) {
        if (!now.hasTwo(from, to)) {
            return UNKNOWN;
        }
        if (!now.isAlive(from) || !now.isAlive(to)) {
            return NOT;
        }
        return now.fewestWays(from, to);
    }

    // ---- rings

    public int ring(int ring) {
        if (!isRing(ring)) {
            return UNKNOWN;
        }
        rings[ring].renew();
        return 0;
    }

    public int add(int ring, int v) {
        if (!isRing(ring)) {
            return UNKNOWN;
        }
        if (v < -MOST_NUMBER || v > MOST_NUMBER) {
            return OUTSIDE;
        }
        Ring found = rings[ring];
        if (found.missing) {
            return NULL;
        }
        if (found.size >= MOST_NUMBERS) {
            return ROOM;
        }
        found.insert(v);
        return found.size;
    }

    public int step(int ring, int n) {
        if (!isRing(ring)) {
            return UNKNOWN;
        }
        if (n < 0 || n > MOST_STEPS) {
            return OUTSIDE;
        }
        Ring found = rings[ring];
        if (found.size == 0) {
            return found.lack();
        }
        found.moveHand(n);
        return found.atHand() + NUMBER_SHIFT;
    }

    public int take(int ring) {
        if (!isRing(ring)) {
            return UNKNOWN;
        }
        Ring found = rings[ring];
        if (found.size == 0) {
            return found.lack();
        }
        int gone = found.atHand();
        found.removeAtHand();
        return gone + NUMBER_SHIFT;
    }

    public int count(int ring, int m) {
        if (!isRing(ring)) {
            return UNKNOWN;
        }
        if (m < 1 || m > MOST_COUNTED) {
            return OUTSIDE;
        }
        Ring found = rings[ring];
        if (found.size == 0) {
            return found.lack();
        }
        found.countOut(m);
        return found.atHand() + NUMBER_SHIFT;
    }

    public int sum(int ring) {
        if (!isRing(ring)) {
            return UNKNOWN;
        }
        Ring found = rings[ring];
        if (found.missing) {
            return NULL;
        }
        return found.total() + SUM_SHIFT;
    }

    public int drop(int ring) {
        if (!isRing(ring)) {
            return UNKNOWN;
        }
        Ring found = rings[ring];
        if (found.missing) {
            return NULL;
        }
        int had = found.size;
        found.lose();
        return had;
    }

    public int told(int what) {
        switch (what) {
            case 0: return now.nodes;
            case 1: return now.room;
            case 2: return now.slice;
            case 3: return now.alive;
            case 4: return now.entries();
            case 5: return now.mostKnown();
            case 6: return now.leastKnown();
            case 7: return now.parts();
            case 8: return now.draws;
            case 9: return ringNumbers();
            case 10: return past.size;
            case 11: return text.length;
            default: return OUTSIDE;
        }
    }

    private static boolean isRing(int ring) {
        return ring >= 0 && ring < RINGS;
    }

    private int ringNumbers() {
        int numbers = 0;
        for (int r = 0; r < RINGS; r++) {
            numbers += rings[r].size;
        }
        return numbers;
    }

    /** The letters written so far, and the token that was read of them last. */
    private static final class Text {
        final int[] letters = new int[MOST_LETTERS];
        int length;
        int tokenKind;
        int tokenStart;
        int tokenEnd;

        void append(int letter) {
            if (length >= 0 && length < MOST_LETTERS) {
                letters[length] = letter;
                length++;
            }
        }

        void clear() {
            length = 0;
        }

        void rewind() {
            tokenEnd = 0;
        }

        void readToken() {
            tokenStart = tokenEnd;
            while (tokenStart < length && letterAt(tokenStart) == ' ') {
                tokenStart++;
            }
            tokenKind = kindAt(tokenStart);
            tokenEnd = Math.min(tokenStart + 1, length);
            boolean isRow = tokenKind == TOKEN_WORD || tokenKind == TOKEN_NUMBER;
            while (isRow && tokenEnd < length && kindAt(tokenEnd) == tokenKind) {
                tokenEnd++;
            }
        }

        boolean isWord(String word) {
            if (tokenKind != TOKEN_WORD || tokenEnd - tokenStart != word.length()) {
                return false;
            }
            for (int k = 0; k < word.length(); k++) {
                if (letterAt(tokenStart + k) != word.charAt(k)) {
                    return false;
                }
            }
            return true;
        }

        /** NONE, if the token is no number or has too many digits. */
        int number() {
            if (tokenKind != TOKEN_NUMBER || tokenEnd - tokenStart > MOST_DIGITS) {
                return NONE;
            }
            int value = 0;
            for (int k = tokenStart; k < tokenEnd; k++) {
                value = value * 10 + (letterAt(k) - '0');
            }
            return value;
        }

        private int kindAt(int place) {
            int letter = letterAt(place);
            if (letter == NONE) {
                return TOKEN_END;
            }
            if (letter >= 'a' && letter <= 'z') {
                return TOKEN_WORD;
            }
            if (letter >= '0' && letter <= '9') {
                return TOKEN_NUMBER;
            }
            return letter == ';' ? TOKEN_SEMICOLON : TOKEN_OTHER;
        }

        private int letterAt(int place) {
            if (place < 0 || place >= length || place >= MOST_LETTERS) {
                return NONE;
            }
            return letters[place];
        }
    }

    /** What a text says, read as a whole before any of it is done, since a fault leaves all as it was. */
    private static final class Clauses {
        final int[] forms = new int[MOST_CLAUSES];
        final int[] numbers = new int[MOST_CLAUSES * CLAUSE_NUMBERS];
        int size;
        private int nodesThen;

        /** The place of the first fault, or NONE. */
        int read(Text text, int nodes) {
            nodesThen = nodes;
            size = 0;
            text.rewind();
            for (int c = 0; c < MOST_CLAUSES; c++) {
                text.readToken();
                if (!readClause(text, c)) {
                    return text.tokenStart;
                }
                size = c + 1;
                if (text.tokenKind == TOKEN_END) {
                    return NONE;
                }
                if (text.tokenKind != TOKEN_SEMICOLON) {
                    return text.tokenStart;
                }
            }
            // Behind the last clause that may be, a semicolon stands between no two.
            return text.tokenStart;
        }

        /** Reads on to the token behind the clause; false, if the token at hand cannot stand there. */
        private boolean readClause(Text text, int c) {
            int form = formOf(text);
            if (form == NONE || c < 0 || c >= MOST_CLAUSES) {
                return false;
            }
            forms[c] = form;
            for (int k = 0; k < numbersOf(form) && k < CLAUSE_NUMBERS; k++) {
                text.readToken();
                int value = text.number();
                if (!fits(c, k, value)) {
                    return false;
                }
                numbers[c * CLAUSE_NUMBERS + k] = value;
            }
            if (form == FORM_NET) {
                // Clauses behind this one speak of the nodes of the new net.
                nodesThen = numberOf(c, 0);
            }
            text.readToken();
            return true;
        }

        private boolean fits(int c, int k, int value) {
            int form = formAt(c);
            if (form == FORM_NET) {
                return value >= leastOfNet(k) && value <= mostOfNet(c, k);
            }
            if (k == 2) {
                return value >= 0 && value <= MOST_AGE;
            }
            return value >= 0 && value < nodesThen && (k == 0 || value != numberOf(c, 0));
        }

        private static int leastOfNet(int k) {
            return k == 0 ? LEAST_NODES : 1;
        }

        private int mostOfNet(int c, int k) {
            switch (k) {
                case 0: return MOST_NODES;
                case 1: return MOST_ENTRIES;
                case 2: return numberOf(c, 1);
                default: return MOST_SEED;
            }
        }

        private static int formOf(Text text) {
            if (text.isWord("net")) {
                return FORM_NET;
            }
            if (text.isWord("dead")) {
                return FORM_DEAD;
            }
            if (text.isWord("sly")) {
                return FORM_SLY;
            }
            if (text.isWord("link")) {
                return FORM_LINK;
            }
            return text.isWord("cut") ? FORM_CUT : NONE;
        }

        private static int numbersOf(int form) {
            switch (form) {
                case FORM_NET: return 4;
                case FORM_LINK: return 3;
                case FORM_CUT: return 2;
                default: return 1;
            }
        }

        private int formAt(int c) {
            return c >= 0 && c < MOST_CLAUSES ? forms[c] : NONE;
        }

        private int numberOf(int c, int k) {
            if (c < 0 || c >= MOST_CLAUSES || k < 0 || k >= CLAUSE_NUMBERS) {
                return NONE;
            }
            return numbers[c * CLAUSE_NUMBERS + k];
        }

        void doAll(Net net) {
            for (int c = 0; c < size; c++) {
                doOne(net, c);
            }
        }

        private void doOne(Net net, int c) {
            int first = numberOf(c, 0);
            int second = numberOf(c, 1);
            int third = numberOf(c, 2);
            switch (formAt(c)) {
                case FORM_NET:
                    net.begin(first, second, third, numberOf(c, 3));
                    break;
                case FORM_DEAD:
                    net.setAlive(first, false);
                    break;
                case FORM_SLY:
                    net.setSly(first);
                    break;
                case FORM_LINK:
                    net.putLink(first, second, third);
                    break;
                case FORM_CUT:
                    net.cutLink(first, second);
                    break;
                default:
                    break;
            }
        }
    }

    /** Whom a node has heard of, in their order, and how long ago. */
    private static final class View {
        final int[] nodes = new int[MOST_ENTRIES];
        final int[] ages = new int[MOST_ENTRIES];
        int size;

        int placeOf(int node) {
            for (int k = 0; k < size; k++) {
                if (nodes[k] == node) {
                    return k;
                }
            }
            return NONE;
        }

        boolean holds(int node) {
            return placeOf(node) != NONE;
        }

        int bits() {
            int bits = 0;
            for (int k = 0; k < size; k++) {
                bits |= 1 << nodes[k];
            }
            return bits;
        }

        void clear() {
            size = 0;
        }

        void append(int node, int age) {
            if (size >= 0 && size < MOST_ENTRIES) {
                nodes[size] = node;
                ages[size] = age;
                size++;
            }
        }

        void replace(int place, int node, int age) {
            if (place >= 0 && place < size) {
                nodes[place] = node;
                ages[place] = age;
            }
        }

        void strike(int place) {
            if (place < 0 || place >= size) {
                return;
            }
            for (int k = place; k + 1 < size; k++) {
                nodes[k] = nodes[k + 1];
                ages[k] = ages[k + 1];
            }
            size--;
        }

        void growOlder() {
            for (int k = 0; k < size; k++) {
                ages[k] = Math.min(ages[k] + 1, MOST_AGE);
            }
        }

        /** The place of the greatest age, of like ones that of the least node; NONE, if there is no entry. */
        int placeOfOldest() {
            int oldest = NONE;
            for (int k = 0; k < size; k++) {
                if (oldest == NONE || isAskedBefore(k, oldest)) {
                    oldest = k;
                }
            }
            return oldest;
        }

        private boolean isAskedBefore(int k, int other) {
            if (k < 0 || k >= size || other < 0 || other >= size) {
                return false;
            }
            return ages[k] > ages[other] || ages[k] == ages[other] && nodes[k] < nodes[other];
        }

        void copyFrom(View other) {
            for (int k = 0; k < MOST_ENTRIES; k++) {
                nodes[k] = other.nodes[k];
                ages[k] = other.ages[k];
            }
            size = other.size;
        }
    }

    /** All that undo, keep and back bring again: nodes, views and the draws. */
    private static final class Net {
        final View[] views = new View[MOST_NODES];
        int nodes;
        int room;
        int slice;
        int draws;
        int alive;
        int sly;

        Net() {
            for (int i = 0; i < MOST_NODES; i++) {
                views[i] = new View();
            }
            begin(4, 2, 1, 1);
        }

        void begin(int newNodes, int newRoom, int newSlice, int seed) {
            nodes = Math.max(LEAST_NODES, Math.min(newNodes, MOST_NODES));
            room = newRoom;
            slice = newSlice;
            draws = seed;
            alive = (1 << nodes) - 1;
            sly = 0;
            for (int i = 0; i < MOST_NODES; i++) {
                views[i].clear();
                for (int d = 1; i < nodes && d < nodes && d <= room; d++) {
                    views[i].append((i + d) % nodes, 0);
                }
            }
        }

        void copyFrom(Net other) {
            nodes = other.nodes;
            room = other.room;
            slice = other.slice;
            draws = other.draws;
            alive = other.alive;
            sly = other.sly;
            for (int i = 0; i < MOST_NODES; i++) {
                views[i].copyFrom(other.views[i]);
            }
        }

        boolean has(int node) {
            return node >= 0 && node < nodes && node < MOST_NODES;
        }

        boolean hasTwo(int one, int another) {
            return has(one) && has(another) && one != another;
        }

        boolean isAlive(int node) {
            return has(node) && (alive >> node & 1) == 1;
        }

        boolean isSly(int node) {
            return has(node) && (sly >> node & 1) == 1;
        }

        void setAlive(int node, boolean isAlive) {
            if (has(node)) {
                alive = isAlive ? alive | 1 << node : alive & ~(1 << node);
            }
        }

        void setSly(int node) {
            if (has(node)) {
                sly |= 1 << node;
            }
        }

        void putLink(int i, int j, int age) {
            if (!hasTwo(i, j)) {
                return;
            }
            View view = views[i];
            if (view.holds(j)) {
                view.replace(view.placeOf(j), j, age);
            } else if (view.size < room) {
                view.append(j, age);
            } else {
                view.replace(view.size - 1, j, age);
            }
        }

        void cutLink(int i, int j) {
            if (has(i)) {
                views[i].strike(views[i].placeOf(j));
            }
        }

        int draw(int m) {
            draws = (draws * 75 + 74) % 65537;
            return m < 1 ? 0 : draws / 2 % m;
        }

        int entries() {
            int entries = 0;
            for (int i = 0; i < MOST_NODES; i++) {
                entries += views[i].size;
            }
            return entries;
        }

        int known(int node) {
            int known = 0;
            for (int i = 0; i < MOST_NODES; i++) {
                if (isAlive(i) && views[i].holds(node)) {
                    known++;
                }
            }
            return known;
        }

        int mostKnown() {
            int most = NONE;
            for (int i = 0; i < MOST_NODES; i++) {
                if (isAlive(i)) {
                    most = Math.max(most, known(i));
                }
            }
            return most;
        }

        int leastKnown() {
            int least = NONE;
            for (int i = 0; i < MOST_NODES; i++) {
                if (isAlive(i)) {
                    least = least == NONE ? known(i) : Math.min(least, known(i));
                }
            }
            return least;
        }

        int fewestWays(int from, int to) {
            int reached = 1 << from;
            for (int ways = 1; ways < MOST_NODES; ways++) {
                reached |= waysOut(reached);
                if ((reached >> to & 1) == 1) {
                    return ways;
                }
            }
            return NONE;
        }

        int parts() {
            int parts = 0;
            int seen = 0;
            for (int i = 0; i < MOST_NODES; i++) {
                if (isAlive(i) && (seen >> i & 1) == 0) {
                    parts++;
                    seen |= partOf(i);
                }
            }
            return parts;
        }

        private int partOf(int node) {
            int part = 1 << node;
            for (int k = 0; k < MOST_NODES; k++) {
                part |= waysOut(part) | waysInto(part);
            }
            return part;
        }

        private int waysOut(int some) {
            int out = 0;
            for (int i = 0; i < MOST_NODES; i++) {
                if (isAlive(i) && (some >> i & 1) == 1) {
                    out |= views[i].bits() & alive;
                }
            }
            return out;
        }

        private int waysInto(int some) {
            int into = 0;
            for (int i = 0; i < MOST_NODES; i++) {
                if (isAlive(i) && (views[i].bits() & alive & some) != 0) {
                    into |= 1 << i;
                }
            }
            return into;
        }
    }

    /** What one node sends, with the places in its own view that it may give up for what it takes. */
    private static final class Sent {
        final int[] nodes = new int[MOST_ENTRIES];
        final int[] ages = new int[MOST_ENTRIES];
        final int[] places = new int[MOST_ENTRIES];
        int size;

        void clear() {
            size = 0;
        }

        void put(int node, int age, int place) {
            if (size >= 0 && size < MOST_ENTRIES) {
                nodes[size] = node;
                ages[size] = age;
                places[size] = place;
                size++;
            }
        }

        void putItself(int node) {
            put(node, 0, NONE);
        }

        void putDrawn(Net net, View view) {
            int sentPlaces = 0;
            for (int left = view.size; left > 0 && size < net.slice; left--) {
                int place = unsentPlace(view, sentPlaces, net.draw(left));
                if (place >= 0 && place < view.size) {
                    sentPlaces |= 1 << place;
                    put(view.nodes[place], view.ages[place], place);
                }
            }
        }

        private static int unsentPlace(View view, int sentPlaces, int which) {
            int passed = 0;
            for (int place = 0; place < view.size; place++) {
                if ((sentPlaces >> place & 1) == 0) {
                    if (passed == which) {
                        return place;
                    }
                    passed++;
                }
            }
            return NONE;
        }

        /** Each place is given up once: what came there in its stead stays. */
        int giveUpPlace() {
            for (int k = 0; k < size; k++) {
                int place = places[k];
                if (place != NONE) {
                    places[k] = NONE;
                    return place;
                }
            }
            return NONE;
        }
    }

    /** Rounds and cycles; the rows of what is sent are made once and used in every round. */
    private static final class Shuffle {
        private final Sent bySender = new Sent();
        private final Sent byAsked = new Sent();

        /** Who was asked, or NONE. */
        int roundOf(Net net, int node) {
            if (!net.has(node)) {
                return NONE;
            }
            View view = net.views[node];
            view.growOlder();
            int place = view.placeOfOldest();
            if (place < 0 || place >= view.size) {
                return NONE;
            }
            int asked = view.nodes[place];
            view.strike(place);
            if (net.isAlive(asked)) {
                swap(net, node, asked);
            }
            return asked;
        }

        void cyclesOf(Net net, int cycles) {
            for (int c = 0; c < cycles; c++) {
                for (int i = 0; i < MOST_NODES; i++) {
                    if (net.isAlive(i)) {
                        roundOf(net, i);
                    }
                }
            }
        }

        private void swap(Net net, int sender, int asked) {
            if (!net.hasTwo(sender, asked)) {
                return;
            }
            bySender.clear();
            bySender.putItself(sender);
            if (!net.isSly(sender)) {
                bySender.putDrawn(net, net.views[sender]);
            }
            byAsked.clear();
            if (net.isSly(asked)) {
                byAsked.putItself(asked);
            } else {
                byAsked.putDrawn(net, net.views[asked]);
            }
            takeAll(net, asked, bySender, byAsked);
            takeAll(net, sender, byAsked, bySender);
        }

        private static void takeAll(Net net, int taker, Sent heard, Sent own) {
            if (!net.has(taker)) {
                return;
            }
            View view = net.views[taker];
            for (int k = 0; k < heard.size; k++) {
                int node = heard.nodes[k];
                if (node == taker || view.holds(node)) {
                    continue;
                }
                if (view.size < net.room) {
                    view.append(node, heard.ages[k]);
                } else {
                    view.replace(own.giveUpPlace(), node, heard.ages[k]);
                }
            }
        }
    }

    /** The nets as they were before the latest calls that can be undone, the oldest of them written over first. */
    private static final class Past {
        private final Net[] nets = new Net[MOST_UNDONE];
        private int top;
        int size;

        Past() {
            for (int k = 0; k < MOST_UNDONE; k++) {
                nets[k] = new Net();
            }
        }

        void clear() {
            size = 0;
        }

        void push(Net net) {
            if (top < 0 || top >= MOST_UNDONE) {
                return;
            }
            nets[top].copyFrom(net);
            top = (top + 1) % MOST_UNDONE;
            size = Math.min(size + 1, MOST_UNDONE);
        }

        void pop(Net net) {
            if (size < 1) {
                return;
            }
            top = Math.floorMod(top - 1, MOST_UNDONE);
            size--;
            net.copyFrom(nets[top]);
        }
    }

    /** Numbers in a row whose end hangs on its beginning; the hand is a place in the row. */
    private static final class Ring {
        private final int[] numbers = new int[MOST_NUMBERS];
        int size;
        private int hand;
        boolean missing = true;

        void renew() {
            size = 0;
            hand = 0;
            missing = false;
        }

        void lose() {
            size = 0;
            hand = 0;
            missing = true;
        }

        /** Why there is no number to be found. */
        int lack() {
            return missing ? NULL : EMPTY;
        }

        void insert(int v) {
            if (size < 0 || size >= MOST_NUMBERS) {
                return;
            }
            int place = size == 0 ? 0 : hand + 1;
            for (int k = size; k > place && k > 0; k--) {
                numbers[k] = numbers[k - 1];
            }
            if (place >= 0 && place < MOST_NUMBERS) {
                numbers[place] = v;
                size++;
            }
        }

        void moveHand(int n) {
            if (size > 0) {
                hand = (hand + n) % size;
            }
        }

        int atHand() {
            return hand >= 0 && hand < size ? numbers[hand] : 0;
        }

        void removeAtHand() {
            if (hand < 0 || hand >= size) {
                return;
            }
            for (int k = hand; k + 1 < size; k++) {
                numbers[k] = numbers[k + 1];
            }
            size--;
            if (hand >= size) {
                hand = 0;
            }
        }

        void countOut(int m) {
            for (int left = size; left > 1; left--) {
                moveHand(m);
                removeAtHand();
            }
        }

        int total() {
            int total = 0;
            for (int k = 0; k < size; k++) {
                total += numbers[k];
            }
            return total;
        }
    }
}
