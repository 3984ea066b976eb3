import java.util.Arrays;
import java.util.NoSuchElementException;

/** Several tables joined at once, letter by letter, by leaps; the document DOC.md tells all of it. */
public final class LeapJoin {
    public static final int NONE = -1;
    public static final int HIDDEN = -1000000;

    private static final int LETTERS = 4;
    private static final int TABLES = 4;
    private static final int WIDTH = 3;
    private static final int ROWS = 12;
    private static final int NUMBERS = 100;
    private static final int ORDERS = 24;
    private static final int TAPE = 400;
    private static final int SCRIPTS = 4;
    private static final int STEPS = 12;
    private static final int STEP_PARTS = 5;
    private static final int UNDOABLE = 40;
    private static final int LOGGED = 60;
    private static final int MOST_WAYS = 40;

    /** Four tables of one letter each, twelve rows in each: no join has more rows. */
    private static final int MOST_FOUND = ROWS * ROWS * ROWS * ROWS;

    /** A number of 0 to 99 takes seven bits of a packed row, the first one the highest. */
    private static final int BITS = 7;
    private static final int MASK = 127;
    private static final int TOP_COLUMN = BITS * (WIDTH - 1);
    private static final int TOP_LETTER = BITS * (LETTERS - 1);

    /** The sorts of acts. */
    private static final int PUT = 0;
    private static final int TAKE = 1;
    private static final int USE = 2;
    private static final int ORDER = 3;

    /** Why an act is refused, as the status counts it. */
    private static final int NO_SUCH = 0;
    private static final int OUT_OF_BOUNDS = 1;
    private static final int IS_SO = 2;
    private static final int TOO_MUCH = 3;
    private static final int REASONS = 4;

    private final Tape tape = new Tape();
    private final Tables tables = new Tables();
    private final Tables apart = new Tables();
    private final Tables kept = new Tables();
    private final Join join = new Join();
    private final Join apartJoin = new Join();
    private final Figures figures = new Figures();
    private final Weights weights = new Weights();
    private final Log acts = new Log();
    private final Log keptActs = new Log();
    private final Past past = new Past();
    private final Script[] scripts = new Script[SCRIPTS];
    private final Script draft = new Script();
    private final int[] refusals = new int[REASONS];
    private int scriptsTold = 0;
    private boolean imageMade = false;
    private long drawn = 0;

    public LeapJoin() {
        for (int i = 0; i < SCRIPTS; i++) {
            scripts[i] = new Script();
        }
    }

    // ---- the tape and its texts

    public int feed(int a, int b, int c, int d, int e) {
        int more = Tape.bytesIn(a) + Tape.bytesIn(b) + Tape.bytesIn(c) + Tape.bytesIn(d) + Tape.bytesIn(e);
        if (tape.length + more > TAPE) {
            return NONE;
        }
        tape.append(a);
        tape.append(b);
        tape.append(c);
        tape.append(d);
        tape.append(e);
        return tape.length;
    }

    public boolean end(int n) {
        if (n < 0 || n > tape.length) {
            return false;
        }
        tape.length = n;
        return true;
    }

    public int fault(int sort) {
        if (sort == 0) {
            return tape.readTables(apart);
        }
        if (sort == 1) {
            return tape.readScript(draft);
        }
        return -2;
    }

    public int text(int sort) {
        if (sort == 0) {
            return textOfTables();
        }
        if (sort == 1) {
            return textOfScript();
        }
        return NONE;
    }

    private int textOfTables() {
        if (tape.readTables(apart) != NONE) {
            return NONE;
        }
        tables.copyFrom(apart);
        tape.length = 0;
        acts.clear();
        past.clear();
        imageMade = false;
        renew();
        return tables.many;
    }

    private int textOfScript() {
        if (scriptsTold >= SCRIPTS || tape.readScript(draft) != NONE) {
            return NONE;
        }
        scripts[scriptsTold].copyFrom(draft);
        tape.length = 0;
        scriptsTold++;
        return scriptsTold - 1;
    }

    /** The join is always that of the tables as they are now. */
    private void renew() {
        join.findBy(tables, tables.order);
        weights.known = false;
    }

    // ---- the tables

    public int rule(int what) {
        if (tables.many == 0) {
            return NONE;
        }
        switch (what) {
            case 0:
                return tables.many;
            case 1:
                return tables.used;
            case 2:
                return tables.order;
            case 3:
                return tables.asked();
            case 4:
                return tables.allRows();
            default:
                return NONE;
        }
    }

    public int table(int table, int what) throws NoSuchElementException {
        if (!tables.isTable(table) || what < 0 || what > 3) {
            throw new NoSuchElementException("no such table or no such what");
        }
        switch (what) {
            case 0:
                return tables.width[table];
            case 1:
                return tables.lettersOf(table);
            case 2:
                return tables.size[table];
            default:
                return tables.isUsed(table) ? 1 : 0;
        }
    }

    public int cell(int table, int i, int column) {
        if (!tables.isTable(table) || i < 0 || i >= tables.size[table]
                || column < 0 || column >= tables.width[table]) {
            return NONE;
        }
        return tables.rowAt(table, i) >> (TOP_COLUMN - BITS * column) & MASK;
    }

    // ---- the join

    public int rows() {
        return tables.many == 0 ? NONE : join.many;
    }

    public int row(int i, int letter) {
        if (!isAsked(letter) || i < 0 || i >= join.many) {
            return NONE;
        }
        return join.numberAt(i, letter);
    }

    public int leaps() {
        return tables.many == 0 ? NONE : join.leaps;
    }

    public int beginnings(int n) {
        if (tables.many == 0 || n < 1 || n > join.depths) {
            return NONE;
        }
        return join.met[n - 1];
    }

    public int best(int what) {
        if (tables.many == 0 || what < 0 || what > 1) {
            return NONE;
        }
        weights.weigh(tables, apartJoin);
        return what == 0 ? weights.bestOrder : weights.fewest;
    }

    public int plain() {
        if (tables.many == 0) {
            return NONE;
        }
        int product = 1;
        for (int t = 0; t < tables.many; t++) {
            if (tables.isUsed(t)) {
                product = product * tables.size[t];
            }
        }
        return product;
    }

    public int given(int table) {
        return tables.isTable(table) ? figures.givenBits(join, tables, table) : NONE;
    }

    public int without(int table) {
        if (!tables.isTable(table)) {
            return NONE;
        }
        int others = tables.used & ~(1 << table);
        if (others == 0) {
            return NONE;
        }
        apart.copyFrom(tables);
        apart.used = others;
        apartJoin.findBy(apart, apart.order);
        return apartJoin.many;
    }

    public int projected(int letters) {
        if (tables.many == 0 || letters < 1 || letters > 15 || (letters & ~tables.asked()) != 0) {
            return NONE;
        }
        apartJoin.findLeading(tables, letters);
        return figures.unlike(apartJoin, letters);
    }

    private boolean isAsked(int letter) {
        return letter >= 0 && letter < LETTERS && (tables.asked() >> letter & 1) != 0;
    }

    // ---- the numbers of a letter

    public int times(int letter, int number) {
        if (!isAsked(letter)) {
            return NONE;
        }
        if (number < 0 || number >= NUMBERS) {
            return 0;
        }
        figures.tallyUp(join, letter);
        return figures.tally[number];
    }

    public int distinct(int letter, int what) {
        if (!isAsked(letter) || what < 0 || what > 3) {
            return NONE;
        }
        figures.tallyUp(join, letter);
        switch (what) {
            case 0:
                return figures.numbers();
            case 1:
                return figures.least();
            case 2:
                return figures.greatest();
            default:
                return figures.oftenest();
        }
    }

    public boolean tells(int letter, int other) {
        return isAsked(letter) && isAsked(other) && figures.isTold(join, letter, other);
    }

    public int behind(int a, int b, int c, int d) {
        if (tables.many == 0) {
            return NONE;
        }
        for (int i = 0; i < join.many; i++) {
            if (join.compareAt(i, a, b, c, d) > 0) {
                return i;
            }
        }
        return NONE;
    }

    public boolean has(int a, int b, int c, int d) {
        if (tables.many == 0) {
            return false;
        }
        for (int i = 0; i < join.many; i++) {
            if (join.compareAt(i, a, b, c, d) == 0) {
                return true;
            }
        }
        return false;
    }

    public long mean(int letter) {
        if (!isAsked(letter) || join.many == 0) {
            return HIDDEN;
        }
        return Figures.bitsOfDouble(figures.meanOf(join, letter));
    }

    public int meanAs(int letter, int what) {
        if (!isAsked(letter) || join.many == 0 || what < 0 || what > 1) {
            return HIDDEN;
        }
        double mean = figures.meanOf(join, letter);
        return what == 0 ? Figures.bitsOfFloat((float) mean) : (int) mean;
    }

    public long spread(int letter) {
        if (!isAsked(letter) || join.many == 0) {
            return HIDDEN;
        }
        return Figures.bitsOfDouble(figures.spreadOf(join, letter));
    }

    public int skew(int letter) {
        if (!isAsked(letter) || join.many == 0) {
            return HIDDEN;
        }
        figures.tallyUp(join, letter);
        int most = figures.oftenest();
        if (most < 0 || most >= NUMBERS) {
            return HIDDEN;
        }
        return Figures.bitsOfFloat((float) figures.tally[most] / (float) join.many);
    }

    // ---- acts

    public int put(int table, int x, int y, int z) {
        return isDone(PUT, table, x, y, z) ? tables.size[table] : NONE;
    }

    public int take(int table, int x, int y, int z) {
        return isDone(TAKE, table, x, y, z) ? tables.size[table] : NONE;
    }

    public int use(int table) {
        if (!isDone(USE, table, NONE, NONE, NONE)) {
            return NONE;
        }
        return tables.isUsed(table) ? 1 : 0;
    }

    public int order(int order) {
        int was = tables.order;
        return isDone(ORDER, order, NONE, NONE, NONE) ? was : NONE;
    }

    /** An act called for by the caller himself: the status counts its refusal. */
    private boolean isDone(int sort, int number, int x, int y, int z) {
        int refusal = attempt(sort, number, x, y, z);
        if (refusal >= 0 && refusal < REASONS) {
            refusals[refusal]++;
        }
        return refusal == NONE;
    }

    /** Does an act if it can be; answers why not, NONE if it is done. */
    private int attempt(int sort, int number, int x, int y, int z) {
        int refusal = tables.refusal(sort, number, x, y, z);
        if (refusal != NONE) {
            return refusal;
        }
        int row = Tables.packed(x, y, z);
        past.add(sort, sort == ORDER ? tables.order : number, row);
        tables.change(sort, number, row);
        renew();
        acts.add(sort, number, join.many);
        return NONE;
    }

    public int ways(int n, long seed) {
        if (tables.many == 0 || n < 1 || n > MOST_WAYS) {
            return NONE;
        }
        drawn = seed;
        for (int i = 0; i < n; i++) {
            goOneWay();
        }
        return join.many;
    }

    private void goOneWay() {
        int way = draw(8);
        if (way == 7) {
            attempt(ORDER, draw(ORDERS), NONE, NONE, NONE);
            return;
        }
        int table = draw(tables.many);
        if (way == 6) {
            attempt(USE, table, NONE, NONE, NONE);
        } else if (way >= 4) {
            int place = draw(ROWS);
            attempt(TAKE, table, cell(table, place, 0), cell(table, place, 1), cell(table, place, 2));
        } else if (tables.isTable(table)) {
            int width = tables.width[table];
            int x = width > 0 ? draw(6) : NONE;
            int y = width > 1 ? draw(6) : NONE;
            int z = width > 2 ? draw(6) : NONE;
            attempt(PUT, table, x, y, z);
        }
    }

    private int draw(int j) {
        drawn = drawn * 6364136223846793005L + 1442695040888963407L;
        return j > 0 ? (int) ((drawn >>> 33) % j) : 0;
    }

    public int status(int what) {
        return what >= 0 && what < REASONS ? refusals[what] : NONE;
    }

    public int undo() {
        if (past.many == 0) {
            return NONE;
        }
        past.dropLatest();
        tables.changeBack(past.sortDropped(), past.numberDropped(), past.rowDropped());
        acts.dropLatest();
        renew();
        return past.many;
    }

    public int log(int i, int what) {
        if (i < 0 || i >= acts.shown() || what < 0 || what >= Log.PARTS) {
            return HIDDEN;
        }
        return acts.partOf(i, what);
    }

    // ---- what would be

    public int would(int table, int x, int y, int z, int what) {
        if (what < 0 || what > 1 || tables.refusal(PUT, table, x, y, z) != NONE) {
            return NONE;
        }
        apart.copyFrom(tables);
        apart.change(PUT, table, Tables.packed(x, y, z));
        apartJoin.findBy(apart, apart.order);
        return what == 0 ? apartJoin.many : apartJoin.leaps;
    }

    public int step(int script, int i, int what) {
        if (!isScript(script) || i < 0 || i >= scripts[script].many || what < 0 || what >= STEP_PARTS) {
            return HIDDEN;
        }
        return scripts[script].partOf(i, what);
    }

    private boolean isScript(int script) {
        return script >= 0 && script < scriptsTold && script < SCRIPTS;
    }

    public int run(int script, int what) {
        if (!isScript(script) || tables.many == 0 || what < 0 || what > 1) {
            return HIDDEN;
        }
        apart.copyFrom(tables);
        int able = scripts[script].rehearse(apart);
        if (what == 0) {
            return able == scripts[script].many ? NONE : able;
        }
        apartJoin.findBy(apart, apart.order);
        return apartJoin.many;
    }

    public int perform(int script) {
        if (!isScript(script) || tables.many == 0) {
            return NONE;
        }
        Script told = scripts[script];
        for (int i = 0; i < told.many; i++) {
            int refusal = attempt(told.partOf(i, 0), told.partOf(i, 1),
                    told.partOf(i, 2), told.partOf(i, 3), told.partOf(i, 4));
            if (refusal != NONE) {
                return i;
            }
        }
        return told.many;
    }

    // ---- the most, images, counts

    public int most(int what) {
        if (tables.many == 0) {
            return HIDDEN;
        }
        switch (what) {
            case 0:
                return tables.allNumbers();
            case 1:
                return tableWithMostRows();
            case 2:
                return tableWithMostGiven();
            case 3:
                return dangling();
            case 4:
                return tellingCouples();
            case 5:
                apartJoin.findBy(tables, 0);
                return apartJoin.leaps;
            case 6:
                weights.weigh(tables, apartJoin);
                return weights.most;
            default:
                return HIDDEN;
        }
    }

    private int tableWithMostRows() {
        int best = 0;
        for (int t = 1; t < tables.many; t++) {
            if (tables.size[t] > tables.size[best]) {
                best = t;
            }
        }
        return best;
    }

    private int givenRows(int table) {
        return Integer.bitCount(figures.givenBits(join, tables, table));
    }

    private int tableWithMostGiven() {
        int best = 0;
        int bestGiven = givenRows(0);
        for (int t = 1; t < tables.many; t++) {
            int given = givenRows(t);
            if (given > bestGiven) {
                best = t;
                bestGiven = given;
            }
        }
        return best;
    }

    private int dangling() {
        int sum = 0;
        for (int t = 0; t < tables.many; t++) {
            if (tables.isUsed(t)) {
                sum += tables.size[t] - givenRows(t);
            }
        }
        return sum;
    }

    private int tellingCouples() {
        int couples = 0;
        for (int letter = 0; letter < LETTERS; letter++) {
            for (int other = 0; other < LETTERS; other++) {
                if (letter != other && tells(letter, other)) {
                    couples++;
                }
            }
        }
        return couples;
    }

    public int image() {
        if (tables.many == 0) {
            return NONE;
        }
        kept.copyFrom(tables);
        keptActs.copyFrom(acts);
        imageMade = true;
        return join.many;
    }

    public int back() {
        if (!imageMade) {
            return NONE;
        }
        tables.copyFrom(kept);
        acts.copyFrom(keptActs);
        past.clear();
        renew();
        return join.many;
    }

    public int count(int what) {
        switch (what) {
            case 0:
                return tables.many;
            case 1:
                return scriptsTold;
            case 2:
                return tape.length;
            case 3:
                return acts.shown();
            case 4:
                return past.many;
            default:
                return HIDDEN;
        }
    }

    /** The tables, which of them are used, and the order: what acts change, but for the log. */
    private static final class Tables {
        int many = 0;
        int used = 0;
        int order = 0;
        final int[] width = new int[TABLES];
        final int[] size = new int[TABLES];
        /** The letters of a table as told, three places for each table. */
        private final int[] letters = new int[TABLES * WIDTH];
        /** The rows of a table, rising as told, twelve places for each table. */
        private final int[] rows = new int[TABLES * ROWS];

        static int packed(int x, int y, int z) {
            return Math.max(x, 0) << TOP_COLUMN | Math.max(y, 0) << BITS | Math.max(z, 0);
        }

        void clear() {
            many = 0;
            used = 0;
            order = 0;
            Arrays.fill(width, 0);
            Arrays.fill(size, 0);
        }

        void copyFrom(Tables other) {
            many = other.many;
            used = other.used;
            order = other.order;
            System.arraycopy(other.width, 0, width, 0, TABLES);
            System.arraycopy(other.size, 0, size, 0, TABLES);
            System.arraycopy(other.letters, 0, letters, 0, TABLES * WIDTH);
            System.arraycopy(other.rows, 0, rows, 0, TABLES * ROWS);
        }

        boolean isTable(int table) {
            return table >= 0 && table < many;
        }

        boolean isUsed(int table) {
            return isTable(table) && (used >> table & 1) != 0;
        }

        /** A new table without letters and rows, behind the others; used, as all are at first. */
        void open() {
            if (many < TABLES) {
                width[many] = 0;
                size[many] = 0;
                used |= 1 << many;
                many++;
            }
        }

        /** One letter more for the latest table; false: it has it, or three others. */
        boolean addLetter(int letter) {
            int table = many - 1;
            if (!isTable(table) || width[table] >= WIDTH || columnOf(table, letter) != NONE) {
                return false;
            }
            letters[table * WIDTH + width[table]] = letter;
            width[table]++;
            return true;
        }

        int columnOf(int table, int letter) {
            for (int k = 0; k < width[table]; k++) {
                if (letters[table * WIDTH + k] == letter) {
                    return k;
                }
            }
            return NONE;
        }

        int lettersOf(int table) {
            int bits = 0;
            for (int k = 0; k < width[table]; k++) {
                bits |= 1 << letters[table * WIDTH + k];
            }
            return bits;
        }

        int asked() {
            int bits = 0;
            for (int t = 0; t < many; t++) {
                if (isUsed(t)) {
                    bits |= lettersOf(t);
                }
            }
            return bits;
        }

        int allRows() {
            int sum = 0;
            for (int t = 0; t < many; t++) {
                sum += size[t];
            }
            return sum;
        }

        int allNumbers() {
            int sum = 0;
            for (int t = 0; t < many; t++) {
                for (int i = 0; i < size[t]; i++) {
                    int row = rowAt(t, i);
                    sum += (row >> TOP_COLUMN) + (row >> BITS & MASK) + (row & MASK);
                }
            }
            return sum;
        }

        int rowAt(int table, int place) {
            return rows[table * ROWS + place];
        }

        int placeOf(int table, int row) {
            for (int i = 0; i < size[table]; i++) {
                if (rowAt(table, i) == row) {
                    return i;
                }
            }
            return NONE;
        }

        /** The row of a table that has the numbers of a row of the join. */
        int rowWithin(int table, int joined) {
            int row = 0;
            for (int k = 0; k < width[table]; k++) {
                int number = joined >> (TOP_LETTER - BITS * letters[table * WIDTH + k]) & MASK;
                row |= number << (TOP_COLUMN - BITS * k);
            }
            return row;
        }

        /** Puts a row to its place; one that is there already stays there once. */
        void insert(int table, int row) {
            if (!isTable(table) || size[table] >= ROWS || placeOf(table, row) != NONE) {
                return;
            }
            int first = table * ROWS;
            int i = first + size[table];
            for (; i > first && rows[i - 1] > row; i--) {
                rows[i] = rows[i - 1];
            }
            rows[i] = row;
            size[table]++;
        }

        private void remove(int table, int row) {
            int place = isTable(table) ? placeOf(table, row) : NONE;
            if (place == NONE) {
                return;
            }
            size[table]--;
            int last = table * ROWS + size[table];
            for (int i = table * ROWS + place; i < last; i++) {
                rows[i] = rows[i + 1];
            }
        }

        /** Why an act can't be, NONE if it can. */
        int refusal(int sort, int number, int x, int y, int z) {
            if (many == 0) {
                return NO_SUCH;
            }
            if (sort == ORDER) {
                if (number < 0 || number >= ORDERS) {
                    return OUT_OF_BOUNDS;
                }
                return number == order ? IS_SO : NONE;
            }
            if (!isTable(number)) {
                return NO_SUCH;
            }
            if (sort == USE) {
                return used == 1 << number ? IS_SO : NONE;
            }
            if (!isFitting(number, 0, x) || !isFitting(number, 1, y) || !isFitting(number, 2, z)) {
                return OUT_OF_BOUNDS;
            }
            boolean isThere = placeOf(number, packed(x, y, z)) != NONE;
            if (isThere != (sort == TAKE)) {
                return IS_SO;
            }
            return sort == PUT && size[number] >= ROWS ? TOO_MUCH : NONE;
        }

        private boolean isFitting(int table, int column, int number) {
            return column < width[table] ? number >= 0 && number < NUMBERS : number == NONE;
        }

        /** An act that is not refused. */
        void change(int sort, int number, int row) {
            if (sort == PUT) {
                insert(number, row);
            } else if (sort == TAKE) {
                remove(number, row);
            } else if (sort == USE) {
                used ^= 1 << number;
            } else {
                order = number;
            }
        }

        /** The contrary of an act; the number of one that told an order is the order ahead of it. */
        void changeBack(int sort, int number, int row) {
            if (sort == PUT) {
                remove(number, row);
            } else if (sort == TAKE) {
                insert(number, row);
            } else {
                change(sort, number, row);
            }
        }
    }

    /** The search for the rows of the join, with its leaps counted. */
    private static final class Join {
        /** How many orders are left for the letters behind the first, the second .. one. */
        private static final int[] BLOCKS = {6, 2, 1, 1};

        int many = 0;
        int leaps = 0;
        /** How many letters are asked; sequence has these in order. */
        int depths = 0;
        final int[] met = new int[LETTERS];
        private final int[] sequence = new int[LETTERS];
        /** The rows found, a number for each letter, a the highest. */
        private final int[] found = new int[MOST_FOUND];
        private final int[] prefix = new int[LETTERS + 1];
        /** The rows of the tables, packed and sorted by the letters in order. */
        private final int[] sorted = new int[TABLES * ROWS];
        private final int[] columns = new int[WIDTH];
        /** For each depth and table: where its number is in a sorted row, NONE: it has not that letter. */
        private final int[] shift = new int[LETTERS * TABLES];
        /** For each depth and table: its sorted rows that have the numbers found so far, and where it stands. */
        private final int[] start = new int[LETTERS * TABLES];
        private final int[] stop = new int[LETTERS * TABLES];
        private final int[] at = new int[LETTERS * TABLES];

        void findBy(Tables tables, int order) {
            int asked = tables.asked();
            int left = (1 << LETTERS) - 1;
            int rest = order;
            depths = 0;
            for (int k = 0; k < LETTERS; k++) {
                int letter = letterOf(left, rest / BLOCKS[k]);
                rest = rest % BLOCKS[k];
                left &= ~(1 << letter);
                addLetters(asked & 1 << letter);
            }
            open(tables);
            search(0);
        }

        /** By an order that has some letters ahead of all others. */
        void findLeading(Tables tables, int letters) {
            int asked = tables.asked();
            depths = 0;
            addLetters(asked & letters);
            addLetters(asked & ~letters);
            open(tables);
            search(0);
        }

        /** The n-th of some letters. */
        private static int letterOf(int letters, int n) {
            int ahead = n;
            for (int letter = 0; letter < LETTERS; letter++) {
                if ((letters >> letter & 1) != 0) {
                    if (ahead == 0) {
                        return letter;
                    }
                    ahead--;
                }
            }
            return 0;
        }

        private void addLetters(int letters) {
            for (int letter = 0; letter < LETTERS; letter++) {
                if ((letters >> letter & 1) != 0 && depths < LETTERS) {
                    sequence[depths] = letter;
                    depths++;
                }
            }
        }

        /** All tables that are used stand ahead of the first letter, their rows sorted. */
        private void open(Tables tables) {
            many = 0;
            leaps = 0;
            Arrays.fill(met, 0);
            Arrays.fill(shift, NONE);
            for (int t = 0; t < TABLES; t++) {
                start[t] = t * ROWS;
                stop[t] = t * ROWS;
                if (tables.isUsed(t)) {
                    load(tables, t);
                }
            }
        }

        private void load(Tables tables, int table) {
            int width = 0;
            for (int depth = 0; depth < depths; depth++) {
                int column = tables.columnOf(table, sequence[depth]);
                if (column != NONE && width < WIDTH) {
                    shift[depth * TABLES + table] = TOP_COLUMN - BITS * width;
                    columns[width] = column;
                    width++;
                }
            }
            for (int i = 0; i < tables.size[table]; i++) {
                int told = tables.rowAt(table, i);
                int row = 0;
                for (int k = 0; k < width; k++) {
                    row |= (told >> (TOP_COLUMN - BITS * columns[k]) & MASK) << (TOP_COLUMN - BITS * k);
                }
                addSorted(table, row);
            }
        }

        private void addSorted(int table, int row) {
            int i = stop[table];
            for (; i > start[table] && sorted[i - 1] > row; i--) {
                sorted[i] = sorted[i - 1];
            }
            sorted[i] = row;
            stop[table]++;
        }

        /** Finds the numbers for the letter of that depth; each going takes a table on by a row at least. */
        private void search(int depth) {
            if (depth >= depths || !isOpened(depth)) {
                return;
            }
            for (int going = 0; going < TABLES * ROWS; going++) {
                int goal = greatestKey(depth);
                int mover = lowestBelow(depth, goal);
                if (mover == NONE) {
                    deepen(depth, goal);
                    mover = lowestBelow(depth, NUMBERS);
                    goal++;
                }
                if (mover == NONE || !isLeapt(depth * TABLES + mover, goal)) {
                    return;
                }
            }
        }

        /** A number is found for the letter of that depth. */
        private void deepen(int depth, int number) {
            int next = depth + 1;
            met[depth]++;
            prefix[next] = prefix[depth] | number << (TOP_LETTER - BITS * sequence[depth]);
            if (next < depths) {
                narrow(depth, number);
                search(next);
            } else if (many < MOST_FOUND) {
                found[many] = prefix[next];
                many++;
            }
        }

        private boolean isOpened(int depth) {
            for (int i = depth * TABLES; i < (depth + 1) * TABLES; i++) {
                at[i] = start[i];
                if (shift[i] != NONE && start[i] >= stop[i]) {
                    return false;
                }
            }
            return true;
        }

        private int greatestKey(int depth) {
            int greatest = NONE;
            for (int i = depth * TABLES; i < (depth + 1) * TABLES; i++) {
                if (shift[i] != NONE) {
                    greatest = Math.max(greatest, sorted[at[i]] >> shift[i] & MASK);
                }
            }
            return greatest;
        }

        /** The lowest table that has the letter and stands at less than a number. */
        private int lowestBelow(int depth, int number) {
            for (int t = 0; t < TABLES; t++) {
                int i = depth * TABLES + t;
                if (shift[i] != NONE && (sorted[at[i]] >> shift[i] & MASK) < number) {
                    return t;
                }
            }
            return NONE;
        }

        /** A leap to the first key that is no less than the goal; false: to the end. */
        private boolean isLeapt(int i, int goal) {
            int place = at[i];
            while (place < stop[i] && (sorted[place] >> shift[i] & MASK) < goal) {
                place++;
            }
            at[i] = place;
            leaps++;
            return place < stop[i];
        }

        /** For the next depth each table that has the letter keeps the rows with the number found. */
        private void narrow(int depth, int number) {
            for (int i = depth * TABLES; i < (depth + 1) * TABLES; i++) {
                int below = i + TABLES;
                start[below] = at[i];
                stop[below] = stop[i];
                if (shift[i] != NONE) {
                    int place = at[i];
                    while (place < stop[i] && (sorted[place] >> shift[i] & MASK) == number) {
                        place++;
                    }
                    stop[below] = place;
                }
            }
        }

        int rowAt(int i) {
            return i >= 0 && i < many ? found[i] : 0;
        }

        int numberAt(int i, int letter) {
            return rowAt(i) >> (TOP_LETTER - BITS * letter) & MASK;
        }

        /** How a row stands to some numbers, in the order, by the letters asked alone: less (-1), alike, greater. */
        int compareAt(int i, int a, int b, int c, int d) {
            for (int depth = 0; depth < depths; depth++) {
                int letter = sequence[depth];
                int other = letter == 0 ? a : letter == 1 ? b : letter == 2 ? c : d;
                int number = numberAt(i, letter);
                if (number != other) {
                    return number > other ? 1 : -1;
                }
            }
            return 0;
        }
    }

    /** What is counted and reckoned over the rows of a join. */
    private static final class Figures {
        /** For each number how often it is there. */
        final int[] tally = new int[NUMBERS];
        /** For each number of one letter that of another one, NONE: not met yet. */
        private final int[] told = new int[NUMBERS];

        /** Counts the numbers of a letter; the functions behind this one look at what it counted. */
        void tallyUp(Join join, int letter) {
            Arrays.fill(tally, 0);
            for (int i = 0; i < join.many; i++) {
                int number = join.numberAt(i, letter);
                if (number < NUMBERS) {
                    tally[number]++;
                }
            }
        }

        int numbers() {
            int sum = 0;
            for (int n = 0; n < NUMBERS; n++) {
                if (tally[n] > 0) {
                    sum++;
                }
            }
            return sum;
        }

        int least() {
            for (int n = 0; n < NUMBERS; n++) {
                if (tally[n] > 0) {
                    return n;
                }
            }
            return NONE;
        }

        int greatest() {
            for (int n = NUMBERS - 1; n >= 0; n--) {
                if (tally[n] > 0) {
                    return n;
                }
            }
            return NONE;
        }

        int oftenest() {
            int best = NONE;
            int most = 0;
            for (int n = 0; n < NUMBERS; n++) {
                if (tally[n] > most) {
                    best = n;
                    most = tally[n];
                }
            }
            return best;
        }

        /** The places (bits) of a table's rows that are in a row of the join; none of one that is not used. */
        int givenBits(Join join, Tables tables, int table) {
            if (!tables.isUsed(table)) {
                return 0;
            }
            int all = (1 << tables.size[table]) - 1;
            int bits = 0;
            for (int i = 0; i < join.many && bits != all; i++) {
                int place = tables.placeOf(table, tables.rowWithin(table, join.rowAt(i)));
                if (place != NONE) {
                    bits |= 1 << place;
                }
            }
            return bits;
        }

        /** How many unlike rows of some letters there are in a join that was found with these leading. */
        int unlike(Join join, int letters) {
            int mask = 0;
            for (int letter = 0; letter < LETTERS; letter++) {
                if ((letters >> letter & 1) != 0) {
                    mask |= MASK << (TOP_LETTER - BITS * letter);
                }
            }
            int sum = 0;
            for (int i = 0; i < join.many; i++) {
                if (i == 0 || (join.rowAt(i) & mask) != (join.rowAt(i - 1) & mask)) {
                    sum++;
                }
            }
            return sum;
        }

        boolean isTold(Join join, int letter, int other) {
            Arrays.fill(told, NONE);
            for (int i = 0; i < join.many; i++) {
                int number = join.numberAt(i, letter);
                int tells = join.numberAt(i, other);
                if (number >= NUMBERS || told[number] != NONE && told[number] != tells) {
                    return false;
                }
                told[number] = tells;
            }
            return true;
        }

        double meanOf(Join join, int letter) {
            double sum = 0;
            for (int i = 0; i < join.many; i++) {
                sum += join.numberAt(i, letter);
            }
            return join.many > 0 ? sum / join.many : 0;
        }

        double spreadOf(Join join, int letter) {
            double mean = meanOf(join, letter);
            double sum = 0;
            for (int i = 0; i < join.many; i++) {
                double far = join.numberAt(i, letter) - mean;
                sum += far < 0 ? -far : far;
            }
            return join.many > 0 ? sum / join.many : 0;
        }

        /** The bits of a double that is 0 or far from the least one; all steps are without rounding. */
        static long bitsOfDouble(double x) {
            if (!(x > 0)) {
                return 0;
            }
            double scaled = x;
            int exponent = 1023;
            for (int i = 0; i < 1022 && scaled >= 2; i++) {
                scaled = scaled / 2;
                exponent++;
            }
            for (int i = 0; i < 1022 && scaled < 1; i++) {
                scaled = scaled * 2;
                exponent--;
            }
            return (long) exponent << 52 | (long) ((scaled - 1) * (1L << 52));
        }

        /** The bits of a float, by those of the double that is alike. */
        static int bitsOfFloat(float x) {
            if (!(x > 0)) {
                return 0;
            }
            long bits = bitsOfDouble(x);
            int exponent = (int) (bits >>> 52) - 1023 + 127;
            return exponent << 23 | (int) (bits >>> 29 & (1L << 23) - 1);
        }
    }

    /** The leaps by all orders, kept till the tables change. */
    private static final class Weights {
        boolean known = false;
        int bestOrder = 0;
        int fewest = 0;
        int most = 0;

        void weigh(Tables tables, Join join) {
            if (known) {
                return;
            }
            for (int order = 0; order < ORDERS; order++) {
                join.findBy(tables, order);
                if (order == 0 || join.leaps < fewest) {
                    bestOrder = order;
                    fewest = join.leaps;
                }
                if (order == 0 || join.leaps > most) {
                    most = join.leaps;
                }
            }
            known = true;
        }
    }

    /** The log: sort, number, rows of each act. It shows the latest 60. */
    private static final class Log {
        static final int PARTS = 3;

        /** So many more are held that 60 are there still when all acts that can be are undone. */
        private static final int HELD = LOGGED + UNDOABLE;

        private final int[] parts = new int[HELD * PARTS];
        /** Where the next act comes; a ring. */
        private int next = 0;
        private int held = 0;

        void clear() {
            next = 0;
            held = 0;
        }

        void copyFrom(Log other) {
            System.arraycopy(other.parts, 0, parts, 0, HELD * PARTS);
            next = other.next;
            held = other.held;
        }

        void add(int sort, int number, int rows) {
            parts[next * PARTS] = sort;
            parts[next * PARTS + 1] = number;
            parts[next * PARTS + 2] = rows;
            next = (next + 1) % HELD;
            held = Math.min(held + 1, HELD);
        }

        void dropLatest() {
            if (held > 0) {
                next = (next + HELD - 1) % HELD;
                held--;
            }
        }

        int shown() {
            return Math.min(held, LOGGED);
        }

        /** A part of the i-th act back from the latest one. */
        int partOf(int i, int part) {
            return parts[(next + HELD - 1 - i) % HELD * PARTS + part];
        }
    }

    /** The latest 40 acts, as what changes them back needs. */
    private static final class Past {
        private static final int PARTS = 3;

        int many = 0;
        private final int[] parts = new int[UNDOABLE * PARTS];
        /** Where the next act comes; a ring. The one dropped stays there to be read. */
        private int next = 0;

        void clear() {
            many = 0;
            next = 0;
        }

        void add(int sort, int number, int row) {
            parts[next * PARTS] = sort;
            parts[next * PARTS + 1] = number;
            parts[next * PARTS + 2] = row;
            next = (next + 1) % UNDOABLE;
            many = Math.min(many + 1, UNDOABLE);
        }

        void dropLatest() {
            if (many > 0) {
                next = (next + UNDOABLE - 1) % UNDOABLE;
                many--;
            }
        }

        int sortDropped() {
            return parts[next * PARTS];
        }

        int numberDropped() {
            return parts[next * PARTS + 1];
        }

        int rowDropped() {
            return parts[next * PARTS + 2];
        }
    }

    /** A script: for each step its sort, its digit or number, the three numbers of its row. */
    private static final class Script {
        int many = 0;
        private final int[] parts = new int[STEPS * STEP_PARTS];

        void clear() {
            many = 0;
        }

        void copyFrom(Script other) {
            many = other.many;
            System.arraycopy(other.parts, 0, parts, 0, STEPS * STEP_PARTS);
        }

        void add(int sort, int number) {
            if (many < STEPS) {
                int first = many * STEP_PARTS;
                parts[first] = sort;
                parts[first + 1] = number;
                Arrays.fill(parts, first + 2, first + STEP_PARTS, NONE);
                many++;
            }
        }

        /** A number for the row of the latest step. */
        void setNumber(int column, int number) {
            if (many > 0 && column >= 0 && column < WIDTH) {
                parts[(many - 1) * STEP_PARTS + 2 + column] = number;
            }
        }

        int partOf(int i, int part) {
            return parts[i * STEP_PARTS + part];
        }

        /** Does the steps with tables that stand apart, up to the first that can't be: how many. */
        int rehearse(Tables tables) {
            for (int i = 0; i < many; i++) {
                int sort = partOf(i, 0);
                int number = partOf(i, 1);
                int x = partOf(i, 2);
                int y = partOf(i, 3);
                int z = partOf(i, 4);
                if (tables.refusal(sort, number, x, y, z) != NONE) {
                    return i;
                }
                tables.change(sort, number, Tables.packed(x, y, z));
            }
            return many;
        }
    }

    /** The tape, and the reading of it: what reads stands at the fault when it answers false. */
    private static final class Tape {
        private static final int TEXT_END = -1;

        int length = 0;
        private final byte[] bytes = new byte[TAPE];
        /** Where the reading stands. */
        private int at = 0;

        static int bytesIn(int word) {
            int sum = 0;
            for (int shift = 24; shift >= 0; shift -= 8) {
                if ((word >> shift & 255) != 0) {
                    sum++;
                }
            }
            return sum;
        }

        void append(int word) {
            for (int shift = 24; shift >= 0; shift -= 8) {
                int sign = word >> shift & 255;
                if (sign != 0 && length < TAPE) {
                    bytes[length] = (byte) sign;
                    length++;
                }
            }
        }

        /** The fault of the tape as tables, NONE: they are told. */
        int readTables(Tables told) {
            at = 0;
            told.clear();
            boolean good = isClause(told);
            for (int n = 1; good && n < TABLES && peek() == ';'; n++) {
                at++;
                good = isClause(told);
            }
            return good && peek() == TEXT_END ? NONE : at;
        }

        /** The fault of the tape as a script, NONE: it is told. */
        int readScript(Script told) {
            at = 0;
            told.clear();
            boolean good = isStep(told);
            for (int n = 1; good && n < STEPS && peek() == ';'; n++) {
                at++;
                good = isStep(told);
            }
            return good && peek() == TEXT_END ? NONE : at;
        }

        /** The next sign that is no blank; the reading stands at it then. */
        private int peek() {
            while (at < length && at < TAPE && bytes[at] == ' ') {
                at++;
            }
            return at < length && at < TAPE ? bytes[at] & 255 : TEXT_END;
        }

        private boolean isClause(Tables told) {
            told.open();
            int table = told.many - 1;
            for (int k = 0; k < WIDTH; k++) {
                int letter = peek() - 'a';
                if (letter < 0 || letter >= LETTERS || !told.addLetter(letter)) {
                    break;
                }
                at++;
            }
            if (table < 0 || told.width[table] == 0 || peek() != ':') {
                return false;
            }
            at++;
            if (!isDigit(peek())) {
                return true;
            }
            for (int i = 1; i < ROWS; i++) {
                if (!isRow(told, table)) {
                    return false;
                }
                if (peek() != '/') {
                    return true;
                }
                at++;
            }
            return isRow(told, table);
        }

        private boolean isRow(Tables told, int table) {
            int row = 0;
            for (int k = 0; k < told.width[table]; k++) {
                if (k > 0) {
                    if (peek() != ',') {
                        return false;
                    }
                    at++;
                }
                int number = number();
                if (number == NONE) {
                    return false;
                }
                row |= number << (TOP_COLUMN - BITS * k);
            }
            told.insert(table, row);
            return true;
        }

        private boolean isStep(Script told) {
            int sign = peek();
            if (sign != 'p' && sign != 't' && sign != 'u' && sign != 'o') {
                return false;
            }
            at++;
            if (sign == 'o') {
                return isOrder(told);
            }
            int digit = peek();
            if (!isDigit(digit)) {
                return false;
            }
            at++;
            told.add(sign == 'p' ? PUT : sign == 't' ? TAKE : USE, digit - '0');
            return sign == 'u' || isRowOfStep(told);
        }

        private boolean isOrder(Script told) {
            int number = number();
            if (number == NONE) {
                return false;
            }
            if (number >= ORDERS) {
                at--;
                return false;
            }
            told.add(ORDER, number);
            return true;
        }

        private boolean isRowOfStep(Script told) {
            if (peek() != ':') {
                return false;
            }
            for (int k = 0; k < WIDTH; k++) {
                at++;
                int number = number();
                if (number == NONE) {
                    return false;
                }
                told.setNumber(k, number);
                if (peek() != ',') {
                    return true;
                }
            }
            return true;
        }

        private static boolean isDigit(int sign) {
            return sign >= '0' && sign <= '9';
        }

        /** A number of one or two digits; NONE, and nothing is read, if there is none. */
        private int number() {
            int sign = peek();
            if (!isDigit(sign)) {
                return NONE;
            }
            int number = sign - '0';
            at++;
            if (at < length && at < TAPE && isDigit(bytes[at])) {
                number = number * 10 + bytes[at] - '0';
                at++;
            }
            return number;
        }
    }
}
