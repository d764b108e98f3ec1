import java.util.Arrays;

/** Functions told as text, with a checker, a solver, a compiler and a machine for them. */
public final class IndexedCompiler {
    public static final int NONE = -1;
    public static final int SIGN = -2, SAME = -3, FULL = -4;
    public static final int NAME = -5, KIND = -6, COUNT = -7, MANY = -8;
    public static final int UNFIT = -9, STEPS = -10, STACK = -11, OVER = -12, NEGATIVE = -13, MEMORY = -14, OUTSIDE = -15;

    private static final int FUNCTIONS = 8;
    private static final int SLOTS = 6;
    private static final int VALUES = 4;
    private static final int LONGEST_ROW = 40;
    private static final int DESK_FACTS = 40;
    private static final int GREATEST = 1000000000;
    private static final int MILLION = 1000000;

    private final Line line;
    private final Reader reader;
    private final Tree[] trees;
    private final Checker checker;
    private final Coder coder;
    private final Slots slots;
    private final Machine machine;
    private final Ground desk;
    private final Expression asked;
    private int functions;
    private int lastPlace;
    private boolean checked;

    public IndexedCompiler() {
        line = new Line();
        reader = new Reader();
        trees = new Tree[FUNCTIONS + 1];
        checker = new Checker();
        coder = new Coder();
        slots = new Slots();
        machine = new Machine();
        desk = new Ground(DESK_FACTS, 0);
        asked = new Expression();
        functions = 0;
        lastPlace = NONE;
        checked = false;
    }

    public int type(int a, int b, int c, int d, int e) throws IllegalStateException {
        int more = bytesIn(a) + bytesIn(b) + bytesIn(c) + bytesIn(d) + bytesIn(e);
        if (line.length + more > Line.LONGEST) {
            throw new IllegalStateException("the line would be too long");
        }
        line.append(a);
        line.append(b);
        line.append(c);
        line.append(d);
        line.append(e);
        return line.length;
    }

    public int erase() {
        int had = line.length;
        line.length = 0;
        return had;
    }

    public int define() {
        Tree tree = treeFor(functions);
        if (!reader.read(line, tree)) {
            lastPlace = reader.wrongAt;
            return SIGN;
        }
        int same = sameNameAt(tree);
        if (same >= 0) {
            lastPlace = same;
            return SAME;
        }
        lastPlace = NONE;
        if (functions >= FUNCTIONS) {
            return FULL;
        }
        functions++;
        checked = false;
        return functions - 1;
    }

    public int clear() {
        int had = functions;
        functions = 0;
        checked = false;
        return had;
    }

    public int check() {
        int answer = checker.judge(trees, functions);
        checked = true;
        lastPlace = checker.faultPlace();
        if (answer == 1) {
            coder.compile(trees, functions);
        }
        return answer;
    }

    public int place() {
        return lastPlace;
    }

    public int count(int what) throws IllegalArgumentException {
        if (what < 0 || what > 5) {
            throw new IllegalArgumentException("what is 0 to 5");
        }
        if (what == 0) {
            return functions;
        }
        if (!checked) {
            return what == 5 ? NONE : 0;
        }
        return checker.tally(what);
    }

    public int goal(int k, int what) throws IllegalArgumentException, IllegalStateException {
        if (what < 0 || what > 5) {
            throw new IllegalArgumentException("what is 0 to 5");
        }
        if (!checked || k < 0 || k >= checker.tally(1)) {
            throw new IllegalStateException("no such goal");
        }
        return checker.goalNumber(k, what);
    }

    public int code(int function, int how, int k) throws IllegalArgumentException, IllegalStateException {
        if (how < 0 || how > 1 || k < 0) {
            throw new IllegalArgumentException("how is 0 or 1, k not below 0");
        }
        if (!canRun(function)) {
            throw new IllegalStateException("not accepted, or no such function");
        }
        return coder.number(function, how, k);
    }

    public void set(int slot, int v) throws IllegalArgumentException {
        if (!isSlot(slot) || !isNumber(v)) {
            throw new IllegalArgumentException("no such slot, or no such number");
        }
        slots.becomeNumber(slot, v);
    }

    public void make(int slot, int n) throws IllegalArgumentException {
        if (!isSlot(slot) || n < 0 || n > LONGEST_ROW) {
            throw new IllegalArgumentException("no such slot, or no such length");
        }
        slots.becomeRow(slot, n);
    }

    public void put(int slot, int i, int v) throws IllegalArgumentException, IllegalStateException {
        if (!isSlot(slot) || !isNumber(v)) {
            throw new IllegalArgumentException("no such slot, or no such number");
        }
        if (!slots.has(slot, i)) {
            throw new IllegalStateException("no such number in the slot");
        }
        slots.change(slot, i, v);
    }

    public int get(int slot, int i) throws IllegalArgumentException, IllegalStateException {
        if (!isSlot(slot)) {
            throw new IllegalArgumentException("no such slot");
        }
        if (i == NONE) {
            return slots.size(slot);
        }
        if (!slots.has(slot, i)) {
            throw new IllegalStateException("no such number in the slot");
        }
        return slots.cell(slot, i);
    }

    public int value(int k, int v) throws IllegalArgumentException {
        if (k < 0 || k >= VALUES || !isNumber(v)) {
            throw new IllegalArgumentException("no such value, or no such number");
        }
        return slots.exchange(k, v);
    }

    public int run(int function, int how, int steps) throws IllegalArgumentException, IllegalStateException {
        if (how < 0 || how > 1 || steps < 1 || steps > Machine.MOST_STEPS) {
            throw new IllegalArgumentException("how is 0 or 1, steps 1 to 20000");
        }
        if (!canRun(function)) {
            throw new IllegalStateException("not accepted, or no such function");
        }
        if (!slots.fit(trees[function])) {
            return UNFIT;
        }
        return machine.perform(coder, slots, function, how, steps);
    }

    public int told(int what) throws IllegalArgumentException {
        if (what < 0 || what > 7) {
            throw new IllegalArgumentException("what is 0 to 7");
        }
        return machine.report(what);
    }

    public int printed(int k, boolean row) {
        return row ? machine.answered(k) : machine.print(k);
    }

    public int fact(int a, int b, int c, int d) throws IllegalArgumentException, IllegalStateException {
        if (!isDeskExpression(a, b, c, d)) {
            throw new IllegalArgumentException("a number is too great or too small");
        }
        if (desk.facts >= DESK_FACTS) {
            throw new IllegalStateException("the desk is full");
        }
        asked.becomeDesk(a, b, c, d);
        desk.addFact(asked, 0);
        return desk.facts;
    }

    public boolean ask(int a, int b, int c, int d) throws IllegalArgumentException {
        if (!isDeskExpression(a, b, c, d)) {
            throw new IllegalArgumentException("a number is too great or too small");
        }
        asked.becomeDesk(a, b, c, d);
        desk.variables = Expression.DESK_VARIABLES;
        return desk.proves(asked);
    }

    public int forget() {
        int had = desk.facts;
        desk.facts = 0;
        return had;
    }

    private static boolean isSlot(int slot) {
        return slot >= 0 && slot < SLOTS;
    }

    private static boolean isNumber(int v) {
        return v >= -GREATEST && v <= GREATEST;
    }

    private static boolean isDeskExpression(int a, int b, int c, int d) {
        return within(a, 1000) && within(b, 1000) && within(c, 1000) && within(d, MILLION);
    }

    private static boolean within(int n, int limit) {
        return n >= -limit && n <= limit;
    }

    private static int bytesIn(int four) {
        int found = 0;
        for (int shift = 24; shift >= 0; shift -= 8) {
            if (((four >>> shift) & 255) != 0) {
                found++;
            }
        }
        return found;
    }

    private boolean canRun(int function) {
        return checked && checker.accepted && function >= 0 && function < functions && trees[function] != null;
    }

    /** The tree behind the eighth is for a line that is read though there are eight functions. */
    private Tree treeFor(int function) {
        int k = Math.max(0, Math.min(function, FUNCTIONS));
        if (trees[k] == null) {
            trees[k] = new Tree();
        }
        return trees[k];
    }

    private int sameNameAt(Tree tree) {
        int twice = tree.firstNameTwice();
        if (twice >= 0) {
            return twice;
        }
        for (int k = 0; k < functions; k++) {
            if (trees[k] != null && trees[k].named == tree.named) {
                return tree.namedAt;
            }
        }
        return NONE;
    }

    /** The characters typed, and the WORDS, NUMBERS and SIGNS that they are. */
    private static final class Line {
        static final int LONGEST = 480;
        static final int END = 0, WRONG = 1, KEPT = 2, WORD = 3, NUMBER = 4, MARK = 5;
        static final int ASSIGN = 1, AT_MOST = 2, AT_LEAST = 3;
        static final String MARKS = "{|}(),:=;+-*/&<>[]";
        static final int WORD_LETTERS = 6;
        static final int NUMBER_DIGITS = 3;
        // Words as numbers: each letter counts 1 to 26, to the base of 32.
        static final int FUN = (6 * 32 + 21) * 32 + 14;
        static final int INT = (9 * 32 + 14) * 32 + 20;
        static final int ROW = (18 * 32 + 15) * 32 + 23;
        static final int LET = (12 * 32 + 5) * 32 + 20;
        static final int IN = 9 * 32 + 14;
        static final int IF = 9 * 32 + 6;
        static final int THEN = ((20 * 32 + 8) * 32 + 5) * 32 + 14;
        static final int ELSE = ((5 * 32 + 12) * 32 + 19) * 32 + 5;
        static final int DONE = (5 * 32 + 14) * 32 + 4;
        static final int LEN = (12 * 32 + 5) * 32 + 14;
        static final int NEW = (14 * 32 + 5) * 32 + 23;
        static final int OUT = (15 * 32 + 21) * 32 + 20;
        static final int[] NO_NAMES = {FUN, INT, ROW, LET, IN, IF, THEN, ELSE, DONE, LEN, NEW, OUT};

        private final char[] signs;
        int length;
        private final int[] kinds;
        private final int[] places;
        private final int[] worths;
        private int many;
        private int next;
        // Of the one that is read now:
        int kind;
        int at;
        int worth;

        Line() {
            signs = new char[LONGEST];
            length = 0;
            kinds = new int[LONGEST + 1];
            places = new int[LONGEST + 1];
            worths = new int[LONGEST + 1];
            many = 0;
            next = 0;
            kind = END;
            at = 0;
            worth = 0;
        }

        void append(int four) {
            for (int shift = 24; shift >= 0; shift -= 8) {
                int sign = (four >>> shift) & 255;
                if (sign != 0 && length >= 0 && length < LONGEST) {
                    signs[length] = (char) sign;
                    length++;
                }
            }
        }

        /** Finds all WORDS, NUMBERS and SIGNS, wrong ones too, and begins with the first. */
        void split() {
            many = 0;
            int from = 0;
            while (from < length && many < LONGEST) {
                char sign = sign(from);
                if (sign == ' ') {
                    from++;
                } else if (isLetter(sign)) {
                    from = takeWord(from);
                } else if (isDigit(sign)) {
                    from = takeNumber(from);
                } else {
                    from = takeMark(from);
                }
            }
            note(END, length, 0);
            next = 0;
            advance();
        }

        /** Behind the last one it stays at the end. */
        void advance() {
            int now = next < many ? next : many - 1;
            if (now >= 0 && now <= LONGEST) {
                kind = kinds[now];
                at = places[now];
                worth = worths[now];
            }
            next = now + 1;
        }

        boolean isMark(int mark) {
            return kind == MARK && worth == mark;
        }

        boolean isWord(int word) {
            return kind == KEPT && worth == word;
        }

        /** 0 to 4 as the document counts RELATIONS, NONE if it is none. */
        int relation() {
            if (kind != MARK) {
                return NONE;
            }
            switch (worth) {
                case '<':
                    return 0;
                case AT_MOST:
                    return 1;
                case '=':
                    return 2;
                case AT_LEAST:
                    return 3;
                case '>':
                    return 4;
                default:
                    return NONE;
            }
        }

        private void note(int newKind, int newPlace, int newWorth) {
            if (many >= 0 && many <= LONGEST) {
                kinds[many] = newKind;
                places[many] = newPlace;
                worths[many] = newWorth;
                many++;
            }
        }

        private char sign(int k) {
            return k >= 0 && k < length && k < LONGEST ? signs[k] : 0;
        }

        private static boolean isLetter(char sign) {
            return sign >= 'a' && sign <= 'z';
        }

        private static boolean isDigit(char sign) {
            return sign >= '0' && sign <= '9';
        }

        private int takeWord(int from) {
            int word = 0;
            int behind = from;
            while (behind < length && isLetter(sign(behind))) {
                word = word * 32 + (sign(behind) - 'a' + 1);
                behind++;
            }
            note(behind - from > WORD_LETTERS ? WRONG : isNoName(word) ? KEPT : WORD, from, word);
            return behind;
        }

        private static boolean isNoName(int word) {
            for (int k = 0; k < NO_NAMES.length; k++) {
                if (NO_NAMES[k] == word) {
                    return true;
                }
            }
            return false;
        }

        private int takeNumber(int from) {
            int number = 0;
            int behind = from;
            while (behind < length && isDigit(sign(behind))) {
                number = number * 10 + (sign(behind) - '0');
                behind++;
            }
            note(behind - from > NUMBER_DIGITS ? WRONG : NUMBER, from, number);
            return behind;
        }

        private int takeMark(int from) {
            int mark = sign(from);
            if (sign(from + 1) == '=' && (mark == ':' || mark == '<' || mark == '>')) {
                note(MARK, from, mark == ':' ? ASSIGN : mark == '<' ? AT_MOST : AT_LEAST);
                return from + 2;
            }
            note(MARKS.indexOf(sign(from)) >= 0 ? MARK : WRONG, from, mark);
            return from + 1;
        }
    }

    /** A function as it was read: nodes of a few numbers each, in one array. Node 0 is none. */
    private static final class Tree {
        static final int SORT = 0, AT = 1, SPOT = 2, WORD = 3, NUMBER = 4, FIRST = 5, SECOND = 6, NEXT = 7, OPERATOR = 8;
        static final int FIELDS = 9;
        // Each node takes one character at least, but for a few.
        static final int NODES = 500;

        static final int AMOUNT = 1, LOCAL = 2, ACCESS = 3, CHANGE = 4, CALL = 5, LENGTH = 6, FRESH = 7, PRINT = 8;
        static final int PAREN = 9, TYPED = 10, SUM = 11, PRODUCT = 12, SEQUENCE = 13, LET = 14, CHOICE = 15;
        static final int TERM = 16, INDEX = 17, PROP = 18, ANY = 19, EXACT = 20, SUCH = 21, ROW = 22, NAMED = 23;

        private final int[] nodes;
        private int size;
        int named;
        int namedAt;
        int indexNames;
        int indexCount;
        int props;
        int parameters;
        int parameterCount;
        int result;
        int steps;

        Tree() {
            nodes = new int[NODES * FIELDS];
            size = 1;
        }

        void empty() {
            size = 1;
            named = 0;
            namedAt = 0;
            indexNames = 0;
            indexCount = 0;
            props = 0;
            parameters = 0;
            parameterCount = 0;
            result = 0;
            steps = 0;
        }

        /** 0 if there is no room. */
        int add(int sort, int at) {
            if (size < 1 || size >= NODES) {
                return 0;
            }
            int node = size;
            size++;
            for (int field = 0; field < FIELDS; field++) {
                nodes[node * FIELDS + field] = 0;
            }
            alter(node, SORT, sort);
            alter(node, AT, at);
            return node;
        }

        int of(int node, int field) {
            if (node < 1 || node >= size || node >= NODES || field < 0 || field >= FIELDS) {
                return 0;
            }
            return nodes[node * FIELDS + field];
        }

        void alter(int node, int field, int number) {
            if (node < 1 || node >= size || node >= NODES || field < 0 || field >= FIELDS) {
                return;
            }
            nodes[node * FIELDS + field] = number;
        }

        /** The next one of a chain; later ones have greater numbers, so that every chain has an end. */
        int after(int node) {
            if (node < 1 || node >= size || node >= NODES) {
                return 0;
            }
            int next = nodes[node * FIELDS + NEXT];
            return next > node ? next : 0;
        }

        int howMany(int first) {
            int found = 0;
            for (int node = first; node > 0; node = after(node)) {
                found++;
            }
            return found;
        }

        /** The place of the first INDEX NAME or PARAMETER whose NAME was there already, or NONE. */
        int firstNameTwice() {
            for (int node = indexNames; node > 0; node = after(node)) {
                if (bears(indexNames, node, of(node, WORD))) {
                    return of(node, AT);
                }
            }
            for (int node = parameters; node > 0; node = after(node)) {
                int word = of(node, WORD);
                if (bears(indexNames, 0, word) || bears(parameters, node, word)) {
                    return of(node, AT);
                }
            }
            return NONE;
        }

        /** Whether one of a chain before the node stop bears that NAME. */
        private boolean bears(int first, int stop, int word) {
            for (int node = first; node > 0 && node != stop; node = after(node)) {
                if (of(node, WORD) == word) {
                    return true;
                }
            }
            return false;
        }
    }

    /** Makes a tree of THE LINE, or finds the place where it cannot go on as a FUNCTION. */
    private static final class Reader {
        static final int DEEPEST = 12;
        static final int MOST_NAMES = 4, MOST_PROPS = 4, MOST_PARAMETERS = 5;

        private Line line;
        private Tree tree;
        int wrongAt;

        Reader() {
            line = null;
            tree = null;
            wrongAt = NONE;
        }

        boolean read(Line text, Tree into) {
            if (text == null || into == null) {
                return false;
            }
            line = text;
            tree = into;
            wrongAt = NONE;
            tree.empty();
            line.split();
            try {
                takeWord(Line.FUN);
                tree.namedAt = line.at;
                tree.named = takeName();
                if (line.isMark('{')) {
                    readIndexNames();
                }
                takeMark('(');
                if (!line.isMark(')')) {
                    readParameters();
                }
                takeMark(')');
                takeMark(':');
                tree.result = readType();
                takeMark('=');
                tree.steps = readSteps(1);
                if (line.kind != Line.END) {
                    refuse();
                }
            } catch (IllegalStateException refused) {
                return false;
            }
            return true;
        }

        private void readIndexNames() {
            takeMark('{');
            tree.indexNames = readNamed();
            tree.indexCount = 1;
            int last = tree.indexNames;
            while (tree.indexCount < MOST_NAMES && line.isMark(',')) {
                line.advance();
                last = follow(last, readNamed());
                tree.indexCount++;
            }
            if (line.isMark('|')) {
                line.advance();
                tree.props = readProps();
            }
            takeMark('}');
        }

        private int readNamed() {
            int node = tree.add(Tree.NAMED, line.at);
            tree.alter(node, Tree.WORD, takeName());
            return node;
        }

        private void readParameters() {
            int last = 0;
            do {
                if (last > 0) {
                    takeMark(',');
                }
                int node = readNamed();
                takeMark(':');
                tree.alter(node, Tree.FIRST, readType());
                if (last > 0) {
                    follow(last, node);
                } else {
                    tree.parameters = node;
                }
                last = node;
                tree.parameterCount++;
            } while (tree.parameterCount < MOST_PARAMETERS && line.isMark(','));
        }

        private int readType() {
            int node = tree.add(Tree.ANY, line.at);
            boolean isRow = line.isWord(Line.ROW);
            takeWord(isRow ? Line.ROW : Line.INT);
            if (isRow || line.isMark('(')) {
                tree.alter(node, Tree.SORT, isRow ? Tree.ROW : Tree.EXACT);
                takeMark('(');
                tree.alter(node, Tree.FIRST, readIndex());
                takeMark(')');
            } else if (line.isMark('{')) {
                line.advance();
                tree.alter(node, Tree.SORT, Tree.SUCH);
                tree.alter(node, Tree.WORD, takeName());
                takeMark('|');
                tree.alter(node, Tree.FIRST, readProps());
                takeMark('}');
            }
            return node;
        }

        private int readProps() {
            int first = 0;
            int last = 0;
            for (int many = 0; many < MOST_PROPS && (many == 0 || line.isMark('&')); many++) {
                if (many > 0) {
                    line.advance();
                }
                int node = tree.add(Tree.PROP, line.at);
                tree.alter(node, Tree.FIRST, readIndex());
                tree.alter(node, Tree.NUMBER, takeRelation());
                tree.alter(node, Tree.SECOND, readIndex());
                first = many == 0 ? node : first;
                last = follow(last, node);
            }
            return first;
        }

        private int readIndex() {
            int first = 0;
            int last = 0;
            for (int many = 0; many < Line.LONGEST && (many == 0 || isAdding()); many++) {
                int factor = many > 0 && line.isMark('-') ? -1 : 1;
                if (many > 0) {
                    line.advance();
                }
                int node = tree.add(Tree.TERM, line.at);
                boolean isNumber = line.kind == Line.NUMBER;
                tree.alter(node, Tree.NUMBER, isNumber ? factor * line.worth : factor);
                if (isNumber) {
                    line.advance();
                }
                if (isNumber && line.isMark('*')) {
                    line.advance();
                    isNumber = false;
                }
                if (!isNumber) {
                    tree.alter(node, Tree.SPOT, line.at);
                    tree.alter(node, Tree.WORD, takeName());
                }
                first = many == 0 ? node : first;
                last = follow(last, node);
            }
            return first;
        }

        private int readSteps(int depth) {
            int first = readStep(depth);
            if (!line.isMark(';')) {
                return first;
            }
            int node = tree.add(Tree.SEQUENCE, tree.of(first, Tree.AT));
            tree.alter(node, Tree.FIRST, first);
            int last = first;
            for (int many = 1; many < Line.LONGEST && line.isMark(';'); many++) {
                line.advance();
                last = follow(last, readStep(depth));
            }
            return node;
        }

        private int readStep(int depth) {
            refuseDeeper(depth);
            if (line.isWord(Line.LET)) {
                return readLet(depth);
            }
            if (line.isWord(Line.IF)) {
                return readChoice(depth);
            }
            int node = readSum(depth);
            if (tree.of(node, Tree.SORT) == Tree.ACCESS && line.isMark(Line.ASSIGN)) {
                line.advance();
                follow(tree.of(node, Tree.FIRST), readStep(depth + 1));
                tree.alter(node, Tree.SORT, Tree.CHANGE);
            }
            return node;
        }

        private int readLet(int depth) {
            int node = tree.add(Tree.LET, line.at);
            takeWord(Line.LET);
            tree.alter(node, Tree.SPOT, line.at);
            tree.alter(node, Tree.WORD, takeName());
            takeMark('=');
            int first = readStep(depth + 1);
            tree.alter(node, Tree.FIRST, first);
            takeWord(Line.IN);
            follow(first, readSteps(depth + 1));
            return node;
        }

        private int readChoice(int depth) {
            int node = tree.add(Tree.CHOICE, line.at);
            takeWord(Line.IF);
            int last = readSum(depth);
            tree.alter(node, Tree.FIRST, last);
            tree.alter(node, Tree.NUMBER, takeRelation());
            last = follow(last, readSum(depth));
            takeWord(Line.THEN);
            last = follow(last, readSteps(depth + 1));
            takeWord(Line.ELSE);
            follow(last, readSteps(depth + 1));
            takeWord(Line.DONE);
            return node;
        }

        private int readSum(int depth) {
            int first = readProduct(depth);
            if (!isAdding()) {
                return first;
            }
            int node = tree.add(Tree.SUM, tree.of(first, Tree.AT));
            tree.alter(node, Tree.FIRST, first);
            int last = first;
            for (int many = 1; many < Line.LONGEST && isAdding(); many++) {
                int operator = line.worth;
                line.advance();
                last = follow(last, readProduct(depth));
                tree.alter(last, Tree.OPERATOR, operator);
            }
            return node;
        }

        private int readProduct(int depth) {
            int first = readPart(depth);
            if (!isMultiplying()) {
                return first;
            }
            int node = tree.add(Tree.PRODUCT, tree.of(first, Tree.AT));
            tree.alter(node, Tree.FIRST, first);
            int last = first;
            for (int many = 1; many < Line.LONGEST && isMultiplying(); many++) {
                int operator = line.worth;
                line.advance();
                last = follow(last, operator == '/' ? readDivisor() : readPart(depth));
                tree.alter(last, Tree.OPERATOR, operator);
            }
            return node;
        }

        private int readDivisor() {
            if (line.kind != Line.NUMBER || line.worth == 0) {
                refuse();
            }
            return readAmount();
        }

        private int readAmount() {
            int node = tree.add(Tree.AMOUNT, line.at);
            tree.alter(node, Tree.NUMBER, line.worth);
            line.advance();
            return node;
        }

        private int readPart(int depth) {
            refuseDeeper(depth);
            if (line.kind == Line.NUMBER) {
                return readAmount();
            }
            if (line.isMark('(')) {
                return readParen(depth);
            }
            if (line.isWord(Line.LEN)) {
                int node = tree.add(Tree.LENGTH, line.at);
                line.advance();
                tree.alter(node, Tree.SPOT, line.at);
                tree.alter(node, Tree.WORD, takeName());
                return node;
            }
            if (line.isWord(Line.NEW) || line.isWord(Line.OUT)) {
                int node = tree.add(line.isWord(Line.NEW) ? Tree.FRESH : Tree.PRINT, line.at);
                line.advance();
                tree.alter(node, Tree.FIRST, readPart(depth + 1));
                return node;
            }
            return readNameOrMore(depth);
        }

        private int readParen(int depth) {
            int node = tree.add(Tree.PAREN, line.at);
            takeMark('(');
            tree.alter(node, Tree.FIRST, readSteps(depth + 1));
            if (line.isMark(':')) {
                line.advance();
                tree.alter(node, Tree.SORT, Tree.TYPED);
                tree.alter(node, Tree.SECOND, readType());
            }
            takeMark(')');
            return node;
        }

        private int readNameOrMore(int depth) {
            int node = tree.add(Tree.LOCAL, line.at);
            tree.alter(node, Tree.SPOT, line.at);
            tree.alter(node, Tree.WORD, takeName());
            if (line.isMark('[')) {
                line.advance();
                tree.alter(node, Tree.SORT, Tree.ACCESS);
                tree.alter(node, Tree.FIRST, readSum(depth + 1));
                takeMark(']');
            } else if (line.isMark('{') || line.isMark('(')) {
                tree.alter(node, Tree.SORT, Tree.CALL);
                readCall(node, depth);
            }
            return node;
        }

        private void readCall(int node, int depth) {
            if (line.isMark('{')) {
                line.advance();
                int last = readIndexOfCall();
                tree.alter(node, Tree.SECOND, last);
                for (int many = 1; many < MOST_NAMES && line.isMark(','); many++) {
                    line.advance();
                    last = follow(last, readIndexOfCall());
                }
                takeMark('}');
            }
            takeMark('(');
            if (!line.isMark(')')) {
                int last = readSteps(depth + 1);
                tree.alter(node, Tree.FIRST, last);
                for (int many = 1; many < MOST_PARAMETERS && line.isMark(','); many++) {
                    line.advance();
                    last = follow(last, readSteps(depth + 1));
                }
            }
            takeMark(')');
        }

        private int readIndexOfCall() {
            int node = tree.add(Tree.INDEX, line.at);
            tree.alter(node, Tree.FIRST, readIndex());
            return node;
        }

        private int follow(int last, int node) {
            tree.alter(last, Tree.NEXT, node);
            return node;
        }

        private boolean isAdding() {
            return line.isMark('+') || line.isMark('-');
        }

        private boolean isMultiplying() {
            return line.isMark('*') || line.isMark('/');
        }

        private void takeMark(int mark) {
            if (!line.isMark(mark)) {
                refuse();
            }
            line.advance();
        }

        private void takeWord(int word) {
            if (!line.isWord(word)) {
                refuse();
            }
            line.advance();
        }

        private int takeRelation() {
            int relation = line.relation();
            if (relation < 0) {
                refuse();
            }
            line.advance();
            return relation;
        }

        private int takeName() {
            if (line.kind != Line.WORD) {
                refuse();
            }
            int name = line.worth;
            line.advance();
            return name;
        }

        private void refuseDeeper(int depth) {
            if (depth > DEEPEST) {
                refuse();
            }
        }

        private void refuse() {
            wrongAt = line.at;
            throw new IllegalStateException("the line cannot go on so");
        }
    }

    /** A sum of VARIABLES, each times a number, and a number; with the kind of what it tells. */
    private static final class Expression {
        static final int MOST_VARIABLES = 24;
        static final int DESK_VARIABLES = 3;
        // Number 0 stands alone, 1 to 24 before VARIABLES, the last before the i of a TYPE's PROPS.
        static final int HOLE = MOST_VARIABLES + 1;
        static final int WIDTH = HOLE + 1;

        final long[] numbers;
        boolean row;

        Expression() {
            numbers = new long[WIDTH];
            row = false;
        }

        void becomeNumber(long n) {
            Arrays.fill(numbers, 0L);
            numbers[0] = n;
            row = false;
        }

        void becomeVariable(int variable) {
            becomeNumber(0);
            if (variable >= 0 && variable < MOST_VARIABLES) {
                numbers[variable + 1] = 1;
            }
        }

        void becomeHole() {
            becomeNumber(0);
            numbers[HOLE] = 1;
        }

        void becomeDesk(int a, int b, int c, int d) {
            becomeNumber(d);
            numbers[1] = a;
            numbers[2] = b;
            numbers[3] = c;
        }

        void become(Expression other) {
            System.arraycopy(other.numbers, 0, numbers, 0, WIDTH);
            row = other.row;
        }

        void add(Expression other, long factor) {
            for (int k = 0; k < WIDTH; k++) {
                numbers[k] += factor * other.numbers[k];
            }
        }

        void multiply(long factor) {
            for (int k = 0; k < WIDTH; k++) {
                numbers[k] *= factor;
            }
        }

        void fillHole(Expression other) {
            long factor = numbers[HOLE];
            numbers[HOLE] = 0;
            add(other, factor);
        }

        boolean isConstant() {
            return !usesFrom(0);
        }

        /** Whether a VARIABLE of that number or a greater one is in it. */
        boolean usesFrom(int variable) {
            for (int k = variable < 0 ? 1 : variable + 1; k < WIDTH; k++) {
                if (numbers[k] != 0) {
                    return true;
                }
            }
            return false;
        }

        boolean isBeyond(long limit) {
            for (int k = 0; k < WIDTH; k++) {
                if (numbers[k] > limit || numbers[k] < -limit) {
                    return true;
                }
            }
            return false;
        }

        boolean isSame(Expression other) {
            for (int k = 0; k < WIDTH; k++) {
                if (numbers[k] != other.numbers[k]) {
                    return false;
                }
            }
            return row == other.row;
        }
    }

    /** A TYPE (or a function's PROPS) with its INDEXES worked out. */
    private static final class Shape {
        static final int MOST_PROPS = 4;

        int sort;
        final Expression index;
        int props;
        final int[] relations;
        // Of a PROP a r b: b - a.
        final Expression[] gaps;

        Shape() {
            sort = Tree.ANY;
            index = new Expression();
            props = 0;
            relations = new int[MOST_PROPS];
            gaps = new Expression[MOST_PROPS];
        }

        boolean isRow() {
            return sort == Tree.ROW;
        }

        /** The gap of one more PROP, to be worked out; null beyond the most that can be. */
        Expression addProp(int relation) {
            if (props < 0 || props >= MOST_PROPS) {
                return null;
            }
            if (gaps[props] == null) {
                gaps[props] = new Expression();
            }
            relations[props] = relation;
            props++;
            return gaps[props - 1];
        }
    }

    /** Finds out whether a GOAL follows from FACTS, by taking one VARIABLE after the other away. */
    private static final class Solver {
        static final int MOST_ROWS = 80;
        static final int WIDTH = Expression.MOST_VARIABLES + 1;
        // More of Euclid's steps than numbers of 64 bits can need.
        static final int MOST_DIVISIONS = 200;

        private long[] rows;
        private long[] others;
        private final long[] work;
        private int kept;
        private int width;
        private boolean tooMuch;
        private boolean isFalse;

        Solver() {
            rows = new long[MOST_ROWS * WIDTH];
            others = new long[MOST_ROWS * WIDTH];
            work = new long[WIDTH];
            kept = 0;
            width = WIDTH;
            tooMuch = false;
            isFalse = false;
        }

        /** The FACTS stand in their array as rows of WIDTH numbers. */
        boolean proves(long[] facts, int many, int variables, Expression goal) {
            int left = Math.max(0, Math.min(variables, Expression.MOST_VARIABLES));
            kept = 0;
            width = left + 1;
            tooMuch = false;
            isFalse = false;
            for (int k = 0; k < many && (k + 1) * WIDTH <= facts.length && !tooMuch; k++) {
                System.arraycopy(facts, k * WIDTH, work, 0, WIDTH);
                keepWork();
            }
            for (int k = 0; k < WIDTH; k++) {
                work[k] = -goal.numbers[k];
            }
            work[0]--;
            keepWork();
            for (int variable = left; variable > 0 && !tooMuch && !isFalse; variable--) {
                takeAway(variable);
            }
            return isFalse && !tooMuch;
        }

        /** It has the greatest number of those that are left, so that rows become shorter by it. */
        private void takeAway(int variable) {
            long[] old = rows;
            int many = kept;
            rows = others;
            others = old;
            kept = 0;
            width = variable;
            for (int first = 0; first < many && !tooMuch; first++) {
                int one = first * WIDTH;
                long p = old[one + variable];
                if (p == 0) {
                    System.arraycopy(old, one, work, 0, width);
                    keepWork();
                }
                for (int second = 0; p > 0 && second < many && !tooMuch; second++) {
                    int two = second * WIDTH;
                    long q = -old[two + variable];
                    if (q > 0) {
                        for (int k = 0; k < width; k++) {
                            work[k] = q * old[one + k] + p * old[two + k];
                        }
                        keepWork();
                    }
                }
            }
        }

        /** TIGHTENS what is at work, and keeps it unless it has no VARIABLES or an alike one is less. */
        private void keepWork() {
            long divisor = 0;
            for (int k = 1; k < width && divisor != 1; k++) {
                long rest = Math.abs(work[k]);
                for (int step = 0; step < MOST_DIVISIONS && rest != 0; step++) {
                    long less = divisor % rest;
                    divisor = rest;
                    rest = less;
                }
            }
            if (divisor > 1) {
                for (int k = 1; k < width; k++) {
                    work[k] /= divisor;
                }
                work[0] = Math.floorDiv(work[0], divisor);
            }
            for (int k = 0; k < width; k++) {
                tooMuch |= work[k] > GREATEST || work[k] < -GREATEST;
            }
            if (divisor == 0) {
                isFalse |= work[0] < 0;
                return;
            }
            for (int row = 0; row < kept; row++) {
                int from = row * WIDTH;
                int k = 1;
                while (k < width && rows[from + k] == work[k]) {
                    k++;
                }
                if (k == width) {
                    rows[from] = Math.min(rows[from], work[0]);
                    return;
                }
            }
            if (kept >= MOST_ROWS) {
                tooMuch = true;
                return;
            }
            System.arraycopy(work, 0, rows, kept * WIDTH, width);
            kept++;
        }
    }

    /** VARIABLES and FACTS that there are, the GOALS that came, and the first fault. */
    private static final class Ground {
        static final int FIELDS = 6;
        static final int LAST_ACCESS_SORT = 1;
        static final int EQUAL = 2;
        // Four PROPS, each of them told by two EXPRESSIONS.
        static final int MOST_PENDING = 8;

        private final Solver solver;
        private final long[] factRows;
        private final int mostFacts;
        private final int[] goalRows;
        private final int mostGoals;
        // What will be told together, as FACTS or as GOALS.
        private final Expression[] pending;
        private int pendings;
        int facts;
        int variables;
        int goals;
        int proved;
        boolean allNeededProved;
        int fault;
        int faultPlace;

        Ground(int manyFacts, int manyGoals) {
            solver = new Solver();
            mostFacts = Math.max(manyFacts, 0);
            factRows = new long[mostFacts * Solver.WIDTH];
            mostGoals = Math.max(manyGoals, 0);
            goalRows = new int[mostGoals * FIELDS];
            pending = new Expression[MOST_PENDING];
            for (int k = 0; k < MOST_PENDING; k++) {
                pending[k] = new Expression();
            }
            pendings = 0;
            facts = 0;
            variables = 0;
            goals = 0;
            proved = 0;
            allNeededProved = true;
            fault = 0;
            faultPlace = NONE;
        }

        void begin() {
            pendings = 0;
            facts = 0;
            variables = 0;
            goals = 0;
            proved = 0;
            allNeededProved = true;
            fault = 0;
            faultPlace = NONE;
        }

        void back(int variablesLeft, int factsLeft) {
            variables = variablesLeft;
            facts = factsLeft;
        }

        void fail(int why, int at) {
            fault = why;
            faultPlace = at;
            throw new IllegalStateException("a fault");
        }

        int newVariable(int at) {
            if (variables >= Expression.MOST_VARIABLES) {
                fail(MANY, at);
            }
            variables++;
            return variables - 1;
        }

        void addFact(Expression fact, int at) {
            if (facts < 0 || facts >= mostFacts) {
                fail(MANY, at);
            }
            System.arraycopy(fact.numbers, 0, factRows, facts * Solver.WIDTH, Solver.WIDTH);
            facts++;
        }

        /** Of a PROP a r b, gap is b - a. */
        void pend(int relation, Expression gap) {
            int many = relation == EQUAL ? 2 : 1;
            for (int k = 0; k < many && pendings < MOST_PENDING; k++) {
                Expression one = pending[pendings];
                one.become(gap);
                if (relation > EQUAL || k > 0) {
                    one.multiply(-1);
                }
                if (relation == 0 || relation == 4) {
                    one.numbers[0]--;
                }
                pendings++;
            }
        }

        void pendAsItIs(Expression one) {
            if (pendings < MOST_PENDING) {
                pending[pendings].become(one);
                pendings++;
            }
        }

        void tellFacts(int at) {
            int many = pendings;
            pendings = 0;
            for (int k = 0; k < many; k++) {
                addFact(pending[k], at);
            }
        }

        /** Whether all of them are PROVED. */
        boolean tellGoals(int function, int at, int sort) {
            int many = pendings;
            pendings = 0;
            boolean all = true;
            for (int k = 0; k < many; k++) {
                if (goals < 0 || goals >= mostGoals) {
                    fail(MANY, at);
                }
                boolean holds = solver.proves(factRows, facts, variables, pending[k]);
                int from = goals * FIELDS;
                goalRows[from] = function;
                goalRows[from + 1] = at;
                goalRows[from + 2] = sort;
                goalRows[from + 3] = holds ? 1 : 0;
                goalRows[from + 4] = facts;
                goalRows[from + 5] = variables;
                goals++;
                if (holds) {
                    proved++;
                } else {
                    all = false;
                    allNeededProved &= sort <= LAST_ACCESS_SORT;
                }
            }
            return all;
        }

        boolean proves(Expression wanted) {
            return solver.proves(factRows, facts, variables, wanted);
        }

        int goalNumber(int k, int field) {
            if (k < 0 || k >= goals || field < 0 || field >= FIELDS) {
                return 0;
            }
            return goalRows[k * FIELDS + field];
        }
    }

    /** Goes through the functions twice, works out what their parts are, and asks for the GOALS. */
    private static final class Checker {
        static final int MOST_FACTS = 48;
        static final int MOST_GOALS = 200;
        static final int MOST_LOCALS = 10;
        static final int BELOW_SORT = 0, ABOVE_SORT = 1, PROP_SORT = 2, GIVEN_SORT = 3, TYPE_SORT = 4;
        // Twelve levels of at most a sum, a product, a call's nine, a let and the three of an if.
        static final int MOST_TAKEN = 300;
        static final int MOST_SHAPES = 20;
        // Four and ten of the function itself, four and five of one that it calls, and an i.
        static final int MOST_NAMES = 24;
        // Of each RELATION; = has none.
        static final int[] CONTRARY = {3, 4, -1, 0, 1};

        private final Ground ground;
        private Tree[] trees;
        private Tree tree;
        private int functions;
        private int function;
        private final Expression[] pool;
        private int taken;
        private final Shape[] shapes;
        private int shapesTaken;
        private final int[] words;
        private final Expression[] meanings;
        private int names;
        private int accesses;
        private int free;
        boolean accepted;

        Checker() {
            ground = new Ground(MOST_FACTS, MOST_GOALS);
            trees = null;
            tree = null;
            pool = new Expression[MOST_TAKEN];
            shapes = new Shape[MOST_SHAPES];
            words = new int[MOST_NAMES];
            meanings = new Expression[MOST_NAMES];
            function = NONE;
            accepted = false;
        }

        /** What the document's check answers. */
        int judge(Tree[] all, int many) {
            if (all == null) {
                return 0;
            }
            trees = all;
            functions = Math.min(Math.max(many, 0), all.length);
            accesses = 0;
            free = 0;
            accepted = false;
            ground.begin();
            try {
                for (function = 0; function < functions; function++) {
                    startFunction();
                    readHeader(takeShape());
                }
                for (function = 0; function < functions; function++) {
                    startFunction();
                    Shape result = takeShape();
                    readHeader(result);
                    lookAt(tree.steps, result);
                }
            } catch (IllegalStateException fault) {
                ground.goals = 0;
                ground.proved = 0;
                accesses = 0;
                free = 0;
                return ground.fault;
            }
            function = NONE;
            accepted = ground.allNeededProved;
            return accepted ? 1 : 0;
        }

        int faultPlace() {
            return ground.faultPlace;
        }

        int goalNumber(int k, int field) {
            return ground.goalNumber(k, field);
        }

        /** What the document's count answers for 1 to 5. */
        int tally(int what) {
            switch (what) {
                case 1:
                    return ground.goals;
                case 2:
                    return ground.proved;
                case 3:
                    return accesses;
                case 4:
                    return free;
                default:
                    return function;
            }
        }

        private void startFunction() {
            if (trees[function] == null) {
                trees[function] = new Tree();
            }
            tree = trees[function];
            ground.back(0, 0);
            taken = 0;
            shapesTaken = 0;
            names = 0;
        }

        private void readHeader(Shape result) {
            for (int node = tree.indexNames; node > 0; node = tree.after(node)) {
                Expression meaning = take();
                meaning.becomeVariable(ground.newVariable(tree.of(node, Tree.AT)));
                bind(tree.of(node, Tree.WORD), meaning);
            }
            Shape shape = takeShape();
            readProps(tree, tree.props, NONE, shape);
            pend(shape, null);
            ground.tellFacts(tree.namedAt);
            for (int node = tree.parameters; node > 0; node = tree.after(node)) {
                Expression meaning = take();
                readShape(tree, tree.of(node, Tree.FIRST), NONE, shape);
                give(shape, meaning, tree.of(node, Tree.AT));
                bind(tree.of(node, Tree.WORD), meaning);
            }
            shapesTaken--;
            readShape(tree, tree.result, NONE, result);
        }

        // ---- names, and room for what is worked out

        private Expression take() {
            if (taken < 0 || taken >= MOST_TAKEN) {
                ground.fail(MANY, 0);
            }
            if (pool[taken] == null) {
                pool[taken] = new Expression();
            }
            taken++;
            return pool[taken - 1];
        }

        private Shape takeShape() {
            if (shapesTaken < 0 || shapesTaken >= MOST_SHAPES) {
                ground.fail(MANY, 0);
            }
            if (shapes[shapesTaken] == null) {
                shapes[shapesTaken] = new Shape();
            }
            shapesTaken++;
            return shapes[shapesTaken - 1];
        }

        private void bind(int word, Expression meaning) {
            if (names < 0 || names >= MOST_NAMES) {
                ground.fail(MANY, 0);
            }
            words[names] = word;
            meanings[names] = meaning;
            names++;
        }

        /** Where that NAME was told last, or NONE. */
        private int find(int word) {
            for (int k = Math.min(names, MOST_NAMES) - 1; k >= 0; k--) {
                if (words[k] == word && meanings[k] != null) {
                    return k;
                }
            }
            return NONE;
        }

        // ---- INDEXES, PROPS and TYPES

        /** MANY is told at the INDEX if manyAt is NONE; a CALL's function has its INDEXES in a tree of its own. */
        private void readIndex(Tree from, int first, int manyAt, Expression into) {
            into.becomeNumber(0);
            for (int term = first; term > 0; term = from.after(term)) {
                int factor = from.of(term, Tree.NUMBER);
                int word = from.of(term, Tree.WORD);
                if (word == 0) {
                    into.numbers[0] += factor;
                } else {
                    int k = find(word);
                    if (k < 0) {
                        ground.fail(NAME, from.of(term, Tree.SPOT));
                    }
                    if (meanings[k].row) {
                        ground.fail(KIND, from.of(term, Tree.SPOT));
                    }
                    into.add(meanings[k], factor);
                }
            }
            if (into.isBeyond(MILLION)) {
                ground.fail(MANY, manyAt == NONE ? from.of(first, Tree.AT) : manyAt);
            }
        }

        private void readProps(Tree from, int first, int manyAt, Shape into) {
            Expression left = take();
            into.sort = Tree.SUCH;
            into.props = 0;
            for (int prop = first; prop > 0; prop = from.after(prop)) {
                Expression gap = into.addProp(from.of(prop, Tree.NUMBER));
                if (gap == null) {
                    ground.fail(MANY, 0);
                } else {
                    readIndex(from, from.of(prop, Tree.FIRST), manyAt, left);
                    readIndex(from, from.of(prop, Tree.SECOND), manyAt, gap);
                    gap.add(left, -1);
                }
            }
            taken--;
        }

        private void readShape(Tree from, int node, int manyAt, Shape into) {
            int sort = from.of(node, Tree.SORT);
            into.props = 0;
            if (sort == Tree.SUCH) {
                Expression hole = take();
                hole.becomeHole();
                bind(from.of(node, Tree.WORD), hole);
                readProps(from, from.of(node, Tree.FIRST), manyAt, into);
                names--;
                taken--;
            } else if (sort != Tree.ANY) {
                readIndex(from, from.of(node, Tree.FIRST), manyAt, into.index);
            }
            into.sort = sort;
        }

        /** THAT a IS T, a going in for the i of its PROPS; a function's PROPS have no i, and a is null. */
        private void pend(Shape shape, Expression a) {
            Expression gap = take();
            if (a != null && (shape.sort == Tree.EXACT || shape.sort == Tree.ROW)) {
                gap.become(a);
                gap.add(shape.index, -1);
                ground.pend(Ground.EQUAL, gap);
            }
            for (int k = 0; k < shape.props && k < Shape.MOST_PROPS; k++) {
                if (shape.gaps[k] != null) {
                    gap.become(shape.gaps[k]);
                    if (a != null) {
                        gap.fillHole(a);
                    }
                    ground.pend(shape.relations[k], gap);
                }
            }
            taken--;
        }

        /** What HAS a TYPE. */
        private void give(Shape shape, Expression into, int at) {
            if (shape.sort == Tree.EXACT || shape.sort == Tree.ROW) {
                into.become(shape.index);
                into.row = shape.isRow();
            } else {
                into.becomeVariable(ground.newVariable(at));
            }
            if (shape.sort == Tree.ROW) {
                ground.addFact(into, at);
            } else if (shape.sort == Tree.SUCH) {
                pend(shape, into);
                ground.tellFacts(at);
            }
        }

        // ---- STEPS and what they are made of; the reader keeps them at most twelve deep

        private void workOut(int node, Expression into) {
            switch (tree.of(node, Tree.SORT)) {
                case Tree.AMOUNT:
                    into.becomeNumber(tree.of(node, Tree.NUMBER));
                    break;
                case Tree.LOCAL:
                    into.become(meaningOf(node));
                    break;
                case Tree.LENGTH:
                    into.become(rowOf(node));
                    into.row = false;
                    break;
                case Tree.ACCESS:
                case Tree.CHANGE:
                    workOutAccess(node, into);
                    break;
                case Tree.CALL:
                    workOutCall(node, into);
                    break;
                case Tree.FRESH:
                    workOutNumber(tree.of(node, Tree.FIRST), into);
                    ground.addFact(into, tree.of(node, Tree.AT));
                    into.row = true;
                    break;
                case Tree.PRINT:
                    workOutNumber(tree.of(node, Tree.FIRST), into);
                    break;
                case Tree.PAREN:
                    workOut(tree.of(node, Tree.FIRST), into);
                    break;
                case Tree.TYPED:
                    workOutTyped(node, into);
                    break;
                default:
                    workOutChain(node, into);
                    break;
            }
        }

        private void workOutChain(int node, Expression into) {
            switch (tree.of(node, Tree.SORT)) {
                case Tree.SUM:
                    workOutSum(node, into);
                    break;
                case Tree.PRODUCT:
                    workOutProduct(node, into);
                    break;
                case Tree.SEQUENCE:
                    workOut(workOutAllButLast(node), into);
                    break;
                case Tree.LET:
                    workOut(openLet(node), into);
                    closeLet();
                    break;
                case Tree.CHOICE:
                    workOutChoice(node, into);
                    break;
                default:
                    into.becomeNumber(0);
                    break;
            }
        }

        private void workOutNumber(int node, Expression into) {
            workOut(node, into);
            if (into.row) {
                ground.fail(KIND, tree.of(node, Tree.AT));
            }
        }

        /** Also notes which local it is, for the code. */
        private Expression meaningOf(int node) {
            int k = find(tree.of(node, Tree.WORD));
            if (k < tree.indexCount) {
                ground.fail(NAME, tree.of(node, Tree.SPOT));
            }
            tree.alter(node, Tree.NUMBER, k - tree.indexCount);
            return meanings[k];
        }

        private Expression rowOf(int node) {
            Expression meaning = meaningOf(node);
            if (!meaning.row) {
                ground.fail(KIND, tree.of(node, Tree.SPOT));
            }
            return meaning;
        }

        private void workOutAccess(int node, Expression into) {
            Expression length = rowOf(node);
            int at = tree.of(node, Tree.AT);
            int indexNode = tree.of(node, Tree.FIRST);
            Expression index = take();
            workOutNumber(indexNode, index);
            boolean isChange = tree.of(node, Tree.SORT) == Tree.CHANGE;
            if (isChange) {
                workOutNumber(tree.after(indexNode), into);
            }
            accesses++;
            ground.pendAsItIs(index);
            boolean isFree = ground.tellGoals(function, at, BELOW_SORT);
            index.multiply(-1);
            index.add(length, 1);
            index.numbers[0]--;
            ground.pendAsItIs(index);
            isFree &= ground.tellGoals(function, at, ABOVE_SORT);
            tree.alter(node, Tree.SECOND, isFree ? 1 : 0);
            if (isFree) {
                free++;
            }
            if (!isChange) {
                into.becomeVariable(ground.newVariable(at));
            }
            taken--;
        }

        private void workOutSum(int node, Expression into) {
            int part = tree.of(node, Tree.FIRST);
            workOutNumber(part, into);
            Expression other = take();
            for (part = tree.after(part); part > 0; part = tree.after(part)) {
                workOutNumber(part, other);
                into.add(other, tree.of(part, Tree.OPERATOR) == '-' ? -1 : 1);
                keepSmall(into, node);
            }
            taken--;
        }

        private void workOutProduct(int node, Expression into) {
            int part = tree.of(node, Tree.FIRST);
            workOutNumber(part, into);
            Expression other = take();
            for (part = tree.after(part); part > 0; part = tree.after(part)) {
                if (tree.of(part, Tree.OPERATOR) == '/') {
                    divide(node, tree.of(part, Tree.NUMBER), into);
                } else {
                    workOutNumber(part, other);
                    multiply(node, other, into);
                }
            }
            taken--;
        }

        private void multiply(int node, Expression other, Expression into) {
            if (into.isConstant()) {
                long factor = into.numbers[0];
                into.become(other);
                into.multiply(factor);
                keepSmall(into, node);
            } else if (other.isConstant()) {
                into.multiply(other.numbers[0]);
                keepSmall(into, node);
            } else {
                into.becomeVariable(ground.newVariable(tree.of(node, Tree.AT)));
            }
        }

        private void keepSmall(Expression into, int node) {
            if (into.isBeyond(MILLION)) {
                into.becomeVariable(ground.newVariable(tree.of(node, Tree.AT)));
            }
        }

        /** Of a / n: FACTS a - n q, and n q + n - 1 - a. */
        private void divide(int node, int n, Expression into) {
            int at = tree.of(node, Tree.AT);
            Expression rest = take();
            Expression quotient = take();
            quotient.becomeVariable(ground.newVariable(at));
            rest.become(into);
            rest.add(quotient, -n);
            ground.addFact(rest, at);
            rest.multiply(-1);
            rest.numbers[0] += n - 1;
            ground.addFact(rest, at);
            into.become(quotient);
            taken -= 2;
        }

        private int workOutAllButLast(int node) {
            int step = tree.of(node, Tree.FIRST);
            Expression lost = take();
            for (int next = tree.after(step); next > 0; next = tree.after(step)) {
                workOut(step, lost);
                step = next;
            }
            taken--;
            return step;
        }

        /** What it is stays taken till closeLet; answers the STEPS behind in. */
        private int openLet(int node) {
            int first = tree.of(node, Tree.FIRST);
            Expression meaning = take();
            workOut(first, meaning);
            if (names - tree.indexCount >= MOST_LOCALS) {
                ground.fail(MANY, tree.of(node, Tree.SPOT));
            }
            tree.alter(node, Tree.NUMBER, names - tree.indexCount);
            bind(tree.of(node, Tree.WORD), meaning);
            return tree.after(first);
        }

        private void closeLet() {
            names--;
            taken--;
        }

        /** Works out both sides of an if; gap becomes their difference; answers the STEPS behind then. */
        private int compare(int node, Expression gap) {
            int left = tree.of(node, Tree.FIRST);
            int right = tree.after(left);
            Expression first = take();
            workOutNumber(left, first);
            workOutNumber(right, gap);
            gap.add(first, -1);
            taken--;
            return tree.after(right);
        }

        private void tellContrary(int node, Expression gap) {
            int relation = tree.of(node, Tree.NUMBER);
            int contrary = relation >= 0 && relation < CONTRARY.length ? CONTRARY[relation] : NONE;
            if (contrary >= 0) {
                ground.pend(contrary, gap);
                ground.tellFacts(tree.of(node, Tree.AT));
            }
        }

        private void workOutChoice(int node, Expression into) {
            int at = tree.of(node, Tree.AT);
            Expression gap = take();
            Expression other = take();
            int then = compare(node, gap);
            int variables = ground.variables;
            int facts = ground.facts;
            ground.pend(tree.of(node, Tree.NUMBER), gap);
            ground.tellFacts(at);
            workOut(then, into);
            ground.back(variables, facts);
            tellContrary(node, gap);
            workOut(tree.after(then), other);
            ground.back(variables, facts);
            boolean isRow = into.row;
            if (isRow != other.row) {
                ground.fail(KIND, tree.of(tree.after(then), Tree.AT));
            }
            if (!into.isSame(other) || into.usesFrom(variables)) {
                into.becomeVariable(ground.newVariable(at));
                into.row = isRow;
                if (isRow) {
                    ground.addFact(into, at);
                }
            }
            taken -= 2;
        }

        private void workOutTyped(int node, Expression into) {
            Shape shape = takeShape();
            readShape(tree, tree.of(node, Tree.SECOND), NONE, shape);
            lookAt(tree.of(node, Tree.FIRST), shape);
            give(shape, into, tree.of(node, Tree.AT));
            shapesTaken--;
        }

        // ---- CALLS

        private void workOutCall(int node, Expression into) {
            int at = tree.of(node, Tree.AT);
            int number = functionNamed(tree.of(node, Tree.WORD));
            if (number < 0) {
                ground.fail(NAME, at);
            }
            tree.alter(node, Tree.NUMBER, number);
            Tree other = trees[number];
            int indexes = tree.of(node, Tree.SECOND);
            int given = tree.of(node, Tree.FIRST);
            if (tree.howMany(indexes) != other.indexCount || tree.howMany(given) != other.parameterCount) {
                ground.fail(COUNT, at);
            }
            int base = taken;
            for (int index = indexes; index > 0; index = tree.after(index)) {
                readIndex(tree, tree.of(index, Tree.FIRST), NONE, take());
            }
            int parameter = other.parameters;
            for (int steps = given; steps > 0; steps = tree.after(steps)) {
                Expression meaning = take();
                workOut(steps, meaning);
                if (meaning.row != isRow(other, parameter)) {
                    ground.fail(KIND, tree.of(steps, Tree.AT));
                }
                parameter = other.after(parameter);
            }
            demandCall(other, at, base, into);
            taken = base;
        }

        private int functionNamed(int word) {
            for (int k = 0; k < functions; k++) {
                if (trees[k] != null && trees[k].named == word) {
                    return k;
                }
            }
            return NONE;
        }

        private static boolean isRow(Tree from, int parameter) {
            return from.of(from.of(parameter, Tree.FIRST), Tree.SORT) == Tree.ROW;
        }

        /** The CALL's INDEXES and PARAMETERS are in the pool from base on. */
        private void demandCall(Tree other, int at, int base, Expression into) {
            Shape shape = takeShape();
            int open = names;
            int next = base;
            for (int node = other.indexNames; node > 0; node = other.after(node)) {
                bind(other.of(node, Tree.WORD), pooled(next));
                next++;
            }
            readProps(other, other.props, at, shape);
            pend(shape, null);
            ground.tellGoals(function, at, PROP_SORT);
            for (int node = other.parameters; node > 0; node = other.after(node)) {
                readShape(other, other.of(node, Tree.FIRST), at, shape);
                pend(shape, pooled(next));
                ground.tellGoals(function, at, GIVEN_SORT);
                bind(other.of(node, Tree.WORD), pooled(next));
                next++;
            }
            readShape(other, other.result, at, shape);
            give(shape, into, at);
            names = open;
            shapesTaken--;
        }

        private Expression pooled(int k) {
            if (k < 0 || k >= taken || k >= MOST_TAKEN || pool[k] == null) {
                ground.fail(MANY, 0);
            }
            return pool[k];
        }

        // ---- THAT STEPS are of a TYPE

        private void lookAt(int node, Shape shape) {
            switch (tree.of(node, Tree.SORT)) {
                case Tree.SEQUENCE:
                    lookAt(workOutAllButLast(node), shape);
                    break;
                case Tree.LET:
                    lookAt(openLet(node), shape);
                    closeLet();
                    break;
                case Tree.PAREN:
                    lookAt(tree.of(node, Tree.FIRST), shape);
                    break;
                case Tree.CHOICE:
                    lookAtChoice(node, shape);
                    break;
                default:
                    lookAtPlain(node, shape);
                    break;
            }
        }

        private void lookAtPlain(int node, Shape shape) {
            int at = tree.of(node, Tree.AT);
            Expression result = take();
            workOut(node, result);
            if (result.row != shape.isRow()) {
                ground.fail(KIND, at);
            }
            pend(shape, result);
            ground.tellGoals(function, at, TYPE_SORT);
            taken--;
        }

        private void lookAtChoice(int node, Shape shape) {
            Expression gap = take();
            int then = compare(node, gap);
            int variables = ground.variables;
            int facts = ground.facts;
            ground.pend(tree.of(node, Tree.NUMBER), gap);
            ground.tellFacts(tree.of(node, Tree.AT));
            lookAt(then, shape);
            ground.back(variables, facts);
            tellContrary(node, gap);
            lookAt(tree.after(then), shape);
            ground.back(variables, facts);
            taken--;
        }
    }

    /** Makes code of functions that were ACCEPTED: two numbers an instruction. */
    private static final class Coder {
        static final int PUSH = 0, LOAD = 1, STORE = 2, DROP = 3, ADD = 4, SUBTRACT = 5, MULTIPLY = 6, DIVIDE = 7;
        static final int LENGTH = 8, FRESH = 9, FETCH = 10, FETCH_FREE = 11, CHANGE = 12, CHANGE_FREE = 13, PRINT = 14;
        static final int CALL = 15, JUMP = 16, UNLESS = 17, BACK = 22;
        // No character of THE LINE makes more than one instruction, and 22 stands behind them.
        static final int MOST_NUMBERS = 2 * (Line.LONGEST + 20);

        private final int[][] codes;
        private final int[] lengths;
        final int[] parameters;
        final boolean[] answersRow;
        private Tree tree;
        private int[] code;
        private int length;

        Coder() {
            codes = new int[FUNCTIONS][];
            lengths = new int[FUNCTIONS];
            parameters = new int[FUNCTIONS];
            answersRow = new boolean[FUNCTIONS];
            tree = null;
            code = null;
            length = 0;
        }

        void compile(Tree[] trees, int functions) {
            if (trees == null) {
                return;
            }
            for (int k = 0; k < functions && k < FUNCTIONS && k < trees.length; k++) {
                if (codes[k] == null) {
                    codes[k] = new int[MOST_NUMBERS];
                }
                code = codes[k];
                tree = trees[k];
                length = 0;
                if (tree != null) {
                    emitSteps(tree.steps);
                    emit(BACK, 0);
                    parameters[k] = tree.parameterCount;
                    answersRow[k] = tree.of(tree.result, Tree.SORT) == Tree.ROW;
                }
                lengths[k] = length;
            }
        }

        /** NONE behind the end, and if there is no such function. */
        int number(int function, int how, int k) {
            if (function < 0 || function >= FUNCTIONS || codes[function] == null) {
                return NONE;
            }
            if (k < 0 || k >= lengths[function] || k >= MOST_NUMBERS) {
                return NONE;
            }
            int number = codes[function][k];
            boolean isFree = k % 2 == 0 && (number == FETCH_FREE || number == CHANGE_FREE);
            return isFree && how == 0 ? number - 1 : number;
        }

        private void emit(int operation, int number) {
            if (length >= 0 && length + 1 < MOST_NUMBERS) {
                code[length] = operation;
                code[length + 1] = number;
                length += 2;
            }
        }

        /** Gives an instruction that goes on elsewhere its aim: what comes next. */
        private void aim(int instruction) {
            int k = 2 * instruction + 1;
            if (k >= 0 && k < length && k < MOST_NUMBERS) {
                code[k] = length / 2;
            }
        }

        private void emitSteps(int node) {
            int first = tree.of(node, Tree.FIRST);
            int number = tree.of(node, Tree.NUMBER);
            switch (tree.of(node, Tree.SORT)) {
                case Tree.AMOUNT:
                    emit(PUSH, number);
                    break;
                case Tree.LOCAL:
                    emit(LOAD, number);
                    break;
                case Tree.LENGTH:
                    emit(LOAD, number);
                    emit(LENGTH, 0);
                    break;
                case Tree.FRESH:
                    emitSteps(first);
                    emit(FRESH, 0);
                    break;
                case Tree.PRINT:
                    emitSteps(first);
                    emit(PRINT, 0);
                    break;
                case Tree.PAREN:
                case Tree.TYPED:
                    emitSteps(first);
                    break;
                case Tree.LET:
                    emitSteps(first);
                    emit(STORE, number);
                    emitSteps(tree.after(first));
                    break;
                case Tree.CHOICE:
                    emitChoice(first, number);
                    break;
                default:
                    emitChain(node, first);
                    break;
            }
        }

        private void emitChain(int node, int first) {
            int sort = tree.of(node, Tree.SORT);
            int number = tree.of(node, Tree.NUMBER);
            int isFree = tree.of(node, Tree.SECOND);
            if (sort == Tree.ACCESS) {
                emit(LOAD, number);
                emitSteps(first);
                emit(FETCH + isFree, 0);
            } else if (sort == Tree.CHANGE) {
                emit(LOAD, number);
                emitSteps(first);
                emitSteps(tree.after(first));
                emit(CHANGE + isFree, 0);
            } else if (sort == Tree.CALL) {
                for (int steps = first; steps > 0; steps = tree.after(steps)) {
                    emitSteps(steps);
                }
                emit(CALL, number);
            } else if (sort == Tree.SUM || sort == Tree.PRODUCT || sort == Tree.SEQUENCE) {
                emitOperands(sort, first);
            }
        }

        private void emitOperands(int sort, int first) {
            emitSteps(first);
            for (int part = tree.after(first); part > 0; part = tree.after(part)) {
                int operator = tree.of(part, Tree.OPERATOR);
                if (sort == Tree.SEQUENCE) {
                    emit(DROP, 0);
                    emitSteps(part);
                } else if (operator == '/') {
                    emit(DIVIDE, tree.of(part, Tree.NUMBER));
                } else {
                    emitSteps(part);
                    emit(operator == '+' ? ADD : operator == '-' ? SUBTRACT : MULTIPLY, 0);
                }
            }
        }

        private void emitChoice(int left, int relation) {
            int right = tree.after(left);
            int then = tree.after(right);
            emitSteps(left);
            emitSteps(right);
            int unless = length / 2;
            emit(UNLESS + relation, 0);
            emitSteps(then);
            int jump = length / 2;
            emit(JUMP, 0);
            aim(unless);
            emitSteps(tree.after(then));
            aim(jump);
        }
    }

    /** SLOTS and VALUES, and whether a function can be run with them. */
    private static final class Slots {
        private final boolean[] isRow;
        // The number, or how long the row is.
        private final int[] sizes;
        private final int[] cells;
        private final int[] values;

        Slots() {
            isRow = new boolean[SLOTS];
            sizes = new int[SLOTS];
            cells = new int[SLOTS * LONGEST_ROW];
            values = new int[VALUES];
        }

        void becomeNumber(int slot, int v) {
            if (isSlot(slot)) {
                isRow[slot] = false;
                sizes[slot] = v;
            }
        }

        void becomeRow(int slot, int n) {
            if (isSlot(slot) && n >= 0 && n <= LONGEST_ROW) {
                isRow[slot] = true;
                sizes[slot] = n;
                for (int i = 0; i < n; i++) {
                    cells[slot * LONGEST_ROW + i] = 0;
                }
            }
        }

        boolean isRowAt(int slot) {
            return isSlot(slot) && isRow[slot];
        }

        boolean has(int slot, int i) {
            return isRowAt(slot) && i >= 0 && i < sizes[slot] && i < LONGEST_ROW;
        }

        int size(int slot) {
            return isSlot(slot) ? sizes[slot] : 0;
        }

        int cell(int slot, int i) {
            return has(slot, i) ? cells[slot * LONGEST_ROW + i] : 0;
        }

        void change(int slot, int i, int v) {
            if (has(slot, i)) {
                cells[slot * LONGEST_ROW + i] = v;
            }
        }

        int exchange(int k, int v) {
            if (k < 0 || k >= VALUES) {
                return 0;
            }
            int old = values[k];
            values[k] = v;
            return old;
        }

        boolean fit(Tree tree) {
            int slot = 0;
            for (int node = tree.parameters; node > 0; node = tree.after(node)) {
                boolean wantsRow = tree.of(tree.of(node, Tree.FIRST), Tree.SORT) == Tree.ROW;
                if (wantsRow != isRowAt(slot)) {
                    return false;
                }
                slot++;
            }
            if (!holdAll(tree, tree.props, 0, 0)) {
                return false;
            }
            slot = 0;
            for (int node = tree.parameters; node > 0; node = tree.after(node)) {
                if (!isOf(tree, tree.of(node, Tree.FIRST), size(slot))) {
                    return false;
                }
                slot++;
            }
            return true;
        }

        private boolean isOf(Tree tree, int node, int size) {
            int sort = tree.of(node, Tree.SORT);
            if (sort == Tree.ANY) {
                return true;
            }
            int first = tree.of(node, Tree.FIRST);
            if (sort == Tree.SUCH) {
                return holdAll(tree, first, tree.of(node, Tree.WORD), size);
            }
            return indexValue(tree, first, 0, 0) == size;
        }

        /** In PROPS of a TYPE, hole is its i, which is that great; else hole is 0, as no NAME is. */
        private boolean holdAll(Tree tree, int first, int hole, int great) {
            for (int prop = first; prop > 0; prop = tree.after(prop)) {
                long left = indexValue(tree, tree.of(prop, Tree.FIRST), hole, great);
                long right = indexValue(tree, tree.of(prop, Tree.SECOND), hole, great);
                if (!holds(tree.of(prop, Tree.NUMBER), left, right)) {
                    return false;
                }
            }
            return true;
        }

        static boolean holds(int relation, long left, long right) {
            switch (relation) {
                case 0:
                    return left < right;
                case 1:
                    return left <= right;
                case 2:
                    return left == right;
                case 3:
                    return left >= right;
                default:
                    return left > right;
            }
        }

        private long indexValue(Tree tree, int first, int hole, int great) {
            long sum = 0;
            for (int term = first; term > 0; term = tree.after(term)) {
                int word = tree.of(term, Tree.WORD);
                long factor = tree.of(term, Tree.NUMBER);
                if (word == 0) {
                    sum += factor;
                } else {
                    sum += factor * (word == hole ? great : named(tree, word));
                }
            }
            return sum;
        }

        private int named(Tree tree, int word) {
            int k = 0;
            for (int node = tree.indexNames; node > 0; node = tree.after(node)) {
                if (tree.of(node, Tree.WORD) == word && k < VALUES) {
                    return values[k];
                }
                k++;
            }
            int slot = 0;
            for (int node = tree.parameters; node > 0; node = tree.after(node)) {
                if (tree.of(node, Tree.WORD) == word) {
                    return size(slot);
                }
                slot++;
            }
            return 0;
        }
    }

    /** Runs code, and keeps what the last RUN told. */
    private static final class Machine {
        static final int MOST_STEPS = 20000;
        static final int CELLS = 600;
        static final int HIGHEST = 200;
        static final int MOST_CALLS = 60;
        static final int LOCALS = Checker.MOST_LOCALS;
        static final int PRINTS = 100;
        static final int GOES_ON = 0, ENDED = 1;
        static final int HOW_ENDED = 0, ANSWER = 1, MADE = 2, CHECKS = 3, ACCESSES = 4, PRINTED = 5, CALLS = 6, TAKEN = 7;
        static final int REPORTS = 8;

        private final int[] cells;
        private final int[] stack;
        private final int[] locals;
        private final int[] backTo;
        private final int[] backIn;
        private final int[] prints;
        private final int[] reports;
        private int height;
        private int depth;
        private int function;
        private int next;
        private int how;
        private int answerRow;
        private Coder coder;

        Machine() {
            cells = new int[CELLS];
            stack = new int[HIGHEST];
            locals = new int[MOST_CALLS * LOCALS];
            backTo = new int[MOST_CALLS];
            backIn = new int[MOST_CALLS];
            prints = new int[PRINTS];
            reports = new int[REPORTS];
            answerRow = NONE;
            coder = null;
        }

        int report(int what) {
            return what >= 0 && what < REPORTS ? reports[what] : 0;
        }

        int print(int k) {
            return k >= 0 && k < PRINTS && k < reports[PRINTED] ? prints[k] : NONE;
        }

        int answered(int k) {
            if (answerRow < 0 || k < 0 || k >= lengthOf(answerRow)) {
                return NONE;
            }
            return cell(answerRow + 1 + k);
        }

        int perform(Coder from, Slots slots, int first, int howTo, int granted) {
            if (from == null || slots == null) {
                return UNFIT;
            }
            coder = from;
            how = howTo;
            start(first);
            loadSlots(slots);
            int end = GOES_ON;
            for (int k = 0; k < granted && k < MOST_STEPS && end == GOES_ON; k++) {
                reports[MADE]++;
                end = step();
            }
            if (end == GOES_ON) {
                end = STEPS;
            }
            reports[HOW_ENDED] = end;
            if (end == ENDED) {
                takeAnswer(first);
            }
            saveSlots(slots, first);
            return end;
        }

        private void start(int first) {
            Arrays.fill(reports, 0);
            Arrays.fill(locals, 0);
            height = 0;
            depth = 1;
            reports[CALLS] = 1;
            function = first;
            next = 0;
            answerRow = NONE;
        }

        private int parametersOf(int k) {
            return k >= 0 && k < coder.parameters.length ? Math.min(coder.parameters[k], LOCALS) : 0;
        }

        private void loadSlots(Slots slots) {
            for (int k = 0; k < parametersOf(function); k++) {
                int size = slots.size(k);
                if (slots.isRowAt(k)) {
                    int row = takeRow(size);
                    for (int i = 0; i < size; i++) {
                        changeCell(row + 1 + i, slots.cell(k, i));
                    }
                    locals[k] = row;
                } else {
                    locals[k] = size;
                }
            }
        }

        /** The PARAMETERS' rows were the first that were taken, one behind the other. */
        private void saveSlots(Slots slots, int first) {
            int row = 0;
            for (int k = 0; k < parametersOf(first); k++) {
                if (slots.isRowAt(k)) {
                    int size = slots.size(k);
                    for (int i = 0; i < size; i++) {
                        slots.change(k, i, cell(row + 1 + i));
                    }
                    row += size + 1;
                }
            }
        }

        private void takeAnswer(int first) {
            int answer = pop();
            if (first >= 0 && first < coder.answersRow.length && coder.answersRow[first]) {
                answerRow = answer;
                answer = lengthOf(answer);
            }
            reports[ANSWER] = answer;
        }

        private int cell(int k) {
            return k >= 0 && k < CELLS ? cells[k] : 0;
        }

        private void changeCell(int k, int v) {
            if (k >= 0 && k < CELLS) {
                cells[k] = v;
            }
        }

        private int lengthOf(int row) {
            return cell(row);
        }

        /** Where the row begins; NONE if there are not as many CELLS. */
        private int takeRow(int size) {
            int row = reports[TAKEN];
            if (size < 0 || row < 0 || size >= CELLS - row) {
                return NONE;
            }
            cells[row] = size;
            for (int i = 0; i < size; i++) {
                cells[row + 1 + i] = 0;
            }
            reports[TAKEN] = row + 1 + size;
            return row;
        }

        private int pop() {
            if (height <= 0 || height > HIGHEST) {
                return 0;
            }
            height--;
            return stack[height];
        }

        private int push(int v) {
            if (height < 0 || height >= HIGHEST) {
                return STACK;
            }
            stack[height] = v;
            height++;
            return GOES_ON;
        }

        private int localPlace(int k) {
            int at = (depth - 1) * LOCALS + k;
            return k >= 0 && k < LOCALS && at >= 0 && at < locals.length ? at : 0;
        }

        private int step() {
            int operation = coder.number(function, how, 2 * next);
            int number = coder.number(function, how, 2 * next + 1);
            next++;
            switch (operation) {
                case Coder.PUSH:
                    return push(number);
                case Coder.LOAD:
                    return push(locals[localPlace(number)]);
                case Coder.STORE:
                    locals[localPlace(number)] = pop();
                    return GOES_ON;
                case Coder.DROP:
                    pop();
                    return GOES_ON;
                case Coder.ADD:
                case Coder.SUBTRACT:
                case Coder.MULTIPLY:
                    return calculate(operation);
                case Coder.DIVIDE:
                    return push(number == 0 ? 0 : Math.floorDiv(pop(), number));
                case Coder.CALL:
                    return open(number);
                case Coder.JUMP:
                    next = number;
                    return GOES_ON;
                case Coder.BACK:
                    return close();
                default:
                    return operation >= Coder.UNLESS ? jumpUnless(operation - Coder.UNLESS, number) : stepOnRow(operation);
            }
        }

        private int calculate(int operation) {
            long right = pop();
            long left = pop();
            long result = operation == Coder.ADD ? left + right : operation == Coder.SUBTRACT ? left - right : left * right;
            if (result > GREATEST || result < -GREATEST) {
                return OVER;
            }
            return push((int) result);
        }

        private int jumpUnless(int relation, int aim) {
            int right = pop();
            int left = pop();
            if (!Slots.holds(relation, left, right)) {
                next = aim;
            }
            return GOES_ON;
        }

        private int stepOnRow(int operation) {
            switch (operation) {
                case Coder.LENGTH:
                    return push(lengthOf(pop()));
                case Coder.FRESH:
                    return makeRow(pop());
                case Coder.PRINT:
                    return printTop();
                case Coder.FETCH:
                case Coder.FETCH_FREE:
                    return access(operation, 0);
                default:
                    return access(operation, pop());
            }
        }

        private int makeRow(int size) {
            if (size < 0) {
                return NEGATIVE;
            }
            int row = takeRow(size);
            return row < 0 ? MEMORY : push(row);
        }

        private int printTop() {
            int v = pop();
            int k = reports[PRINTED];
            if (k >= 0 && k < PRINTS) {
                prints[k] = v;
            }
            reports[PRINTED] = k + 1;
            return push(v);
        }

        private int access(int operation, int v) {
            int index = pop();
            int row = pop();
            if (operation == Coder.FETCH || operation == Coder.CHANGE) {
                reports[CHECKS]++;
                if (index < 0 || index >= lengthOf(row)) {
                    return OUTSIDE;
                }
            }
            reports[ACCESSES]++;
            int at = row + 1 + index;
            if (operation == Coder.FETCH || operation == Coder.FETCH_FREE) {
                return push(cell(at));
            }
            changeCell(at, v);
            return push(v);
        }

        private int open(int callee) {
            if (depth < 1 || depth >= MOST_CALLS) {
                return STACK;
            }
            backTo[depth] = next;
            backIn[depth] = function;
            depth++;
            reports[CALLS] = Math.max(reports[CALLS], depth);
            for (int k = parametersOf(callee) - 1; k >= 0; k--) {
                locals[localPlace(k)] = pop();
            }
            function = callee;
            next = 0;
            return GOES_ON;
        }

        private int close() {
            depth--;
            if (depth < 1 || depth >= MOST_CALLS) {
                return ENDED;
            }
            next = backTo[depth];
            function = backIn[depth];
            return GOES_ON;
        }
    }
}
