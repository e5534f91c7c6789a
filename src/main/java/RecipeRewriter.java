/**
 * Rewrites programs by rules without losing a character: blanks, line ends, comments and what
 * cannot be understood stay as they were, and only what a rule fits is changed.
 *
 * <p>All rows are made in constructors and used again, so that no call makes an object.
 */
public final class RecipeRewriter {
    private static final int BUFFER_SIZE = 60;
    private static final int PROGRAM_SIZE = 120;
    private static final int MOST_RULES = 6;
    private static final int MOST_CYCLES = 9;
    private static final int MOST_DEPTH = 12;
    private static final int DIGITS = 10;

    private static final int NONE = -1;
    private static final int REFUSED = -1;
    private static final int OUTGROWN = -2;

    private static final int LINE_END = 10;
    private static final int BLANK = 32;
    private static final int LAST_CHARACTER = 126;

    private static final int NAME = 1;
    private static final int NUMBER = 2;
    private static final int HOLE = 3;
    private static final int OPEN = 4;
    private static final int CLOSE = 5;
    private static final int COMMA = 6;
    private static final int SEMICOLON = 7;
    private static final int ARROW = 8;
    private static final int ODD = 9;

    private static final int OPAQUE_STATEMENT = 0;
    private static final int NAME_STATEMENT = 1;
    private static final int NUMBER_STATEMENT = 2;
    private static final int CALL_STATEMENT = 3;

    private static final int KEEP = 1000;
    private static final int DELETE = 2000;
    private static final int INSERT = 3000;

    private final int[] buffer;
    private int bufferedCount;
    private final int[] loaded;
    private int loadedCount;
    private final Rule[] ruleRow;
    private int ruleCount;
    private final Program program;
    private int latestCycles;
    private final Patch patch;

    public RecipeRewriter() {
        buffer = new int[BUFFER_SIZE];
        bufferedCount = 0;
        loaded = new int[BUFFER_SIZE];
        loadedCount = 0;
        ruleRow = new Rule[MOST_RULES];
        for (int r = 0; r < MOST_RULES; r++) {
            ruleRow[r] = new Rule();
        }
        ruleCount = 0;
        program = new Program();
        latestCycles = 0;
        patch = new Patch();
    }

    public boolean type(int c) {
        boolean character = c == LINE_END || c >= BLANK && c <= LAST_CHARACTER;
        if (!character || bufferedCount >= BUFFER_SIZE) {
            return false;
        }
        buffer[bufferedCount] = c;
        bufferedCount++;
        return true;
    }

    public void clear() {
        bufferedCount = 0;
    }

    public int buffered() {
        return bufferedCount;
    }

    public int load() {
        System.arraycopy(buffer, 0, loaded, 0, bufferedCount);
        loadedCount = bufferedCount;
        bufferedCount = 0;
        latestCycles = 0;
        program.become(loaded, loadedCount);
        patch.forget();
        return program.outline.statementCount;
    }

    public int rule() {
        if (ruleCount >= MOST_RULES || !ruleRow[ruleCount].become(buffer, bufferedCount)) {
            return REFUSED;
        }
        bufferedCount = 0;
        ruleCount++;
        return ruleCount - 1;
    }

    public int rules() {
        return ruleCount;
    }

    public int run(int most) {
        if (most < 1 || most > MOST_CYCLES) {
            return REFUSED;
        }
        int before = program.rewritingCount;
        int made = 0;
        boolean busy = true;
        program.save();
        for (int c = 0; c < most && busy; c++) {
            int done = program.rewritingCount;
            if (!program.cycle(ruleRow, ruleCount)) {
                program.restore(before);
                return OUTGROWN;
            }
            made++;
            busy = program.rewritingCount > done;
        }
        latestCycles = made;
        patch.forget();
        return program.rewritingCount - before;
    }

    public int cycles() {
        return latestCycles;
    }

    public int rewritings() {
        return program.rewritingCount;
    }

    public int length() {
        return program.now.size;
    }

    public int at(int p) {
        return p >= 0 && p < program.now.size ? program.now.chars[p] : NONE;
    }

    public int mark(int p) {
        return p >= 0 && p < program.now.size ? program.now.marks[p] : NONE;
    }

    public int statements() {
        return program.outline.statementCount;
    }

    public int kind(int s) {
        return s >= 0 && s < program.outline.statementCount ? program.outline.statementKinds[s] : NONE;
    }

    public int expressions() {
        return program.outline.count;
    }

    public int start(int k) {
        return k >= 0 && k < program.outline.count ? program.now.starts[program.outline.firsts[k]] : NONE;
    }

    public int end(int k) {
        return k >= 0 && k < program.outline.count ? program.now.ends[program.outline.lasts[k]] : NONE;
    }

    public int fits(int r) {
        return r >= 0 && r < ruleCount ? program.countFitting(ruleRow[r]) : NONE;
    }

    public int distance() {
        patch.trace(loaded, loadedCount, program.now);
        return patch.changeCount;
    }

    public int step(int i) {
        patch.trace(loaded, loadedCount, program.now);
        return i >= 0 && i < patch.stepCount ? patch.steps[i] : NONE;
    }

    /**
     * Characters and the tokens that they make. With each character goes the mark of the innermost
     * expression that has it (NONE outside of all): the first character of an expression is never
     * one of its arguments', so these marks say the marks of all expressions, and move with them.
     */
    private static final class Text {
        private final int[] chars;
        private final int[] marks;
        private final int[] kinds;
        private final int[] starts;
        private final int[] ends;
        private int size;
        private int tokens;

        Text(int most) {
            chars = new int[most];
            marks = new int[most];
            kinds = new int[most];
            starts = new int[most];
            ends = new int[most];
            size = 0;
            tokens = 0;
        }

        void empty() {
            size = 0;
            tokens = 0;
        }

        void become(int[] from, int count) {
            empty();
            size = Math.max(0, Math.min(count, Math.min(from.length, chars.length)));
            System.arraycopy(from, 0, chars, 0, size);
            markSpan(0, size, NONE);
            findTokens();
        }

        void becomeCopy(Text from) {
            empty();
            if (from.size > chars.length) {
                return;
            }
            size = from.size;
            tokens = from.tokens;
            System.arraycopy(from.chars, 0, chars, 0, size);
            System.arraycopy(from.marks, 0, marks, 0, size);
            System.arraycopy(from.kinds, 0, kinds, 0, tokens);
            System.arraycopy(from.starts, 0, starts, 0, tokens);
            System.arraycopy(from.ends, 0, ends, 0, tokens);
        }

        void markSpan(int start, int end, int number) {
            for (int p = Math.max(0, start); p < end && p < size; p++) {
                marks[p] = number;
            }
        }

        private void findTokens() {
            int behind = 0;
            for (int p = 0; p < size; p = Math.max(p + 1, behind)) {
                int c = chars[p];
                if (c == '#') {
                    behind = behindComment(p);
                } else if (c != BLANK && c != LINE_END) {
                    int kind = tokenKind(p);
                    behind = behindToken(p, kind);
                    kinds[tokens] = kind;
                    starts[tokens] = p;
                    ends[tokens] = behind;
                    tokens++;
                }
            }
        }

        private int behindComment(int p) {
            int behind = p;
            while (behind < size && chars[behind] != LINE_END) {
                behind++;
            }
            return behind;
        }

        private int tokenKind(int p) {
            int c = chars[p];
            if (isLetter(c)) {
                return NAME;
            }
            if (isDigit(c)) {
                return NUMBER;
            }
            switch (c) {
                case '(':
                    return OPEN;
                case ')':
                    return CLOSE;
                case ',':
                    return COMMA;
                case ';':
                    return SEMICOLON;
                case '>':
                    return ARROW;
                case '$':
                    return p + 1 < size && isDigit(chars[p + 1]) ? HOLE : ODD;
                default:
                    return ODD;
            }
        }

        private int behindToken(int p, int kind) {
            if (kind == HOLE) {
                return p + 2;
            }
            int behind = p + 1;
            if (kind == NAME || kind == NUMBER) {
                while (behind < size && goesOn(kind, chars[behind])) {
                    behind++;
                }
            }
            return behind;
        }

        private static boolean goesOn(int kind, int c) {
            return isDigit(c) || kind == NAME && isLetter(c);
        }

        private static boolean isLetter(int c) {
            return c >= 'a' && c <= 'z' || c >= 'A' && c <= 'Z';
        }

        private static boolean isDigit(int c) {
            return c >= '0' && c <= '9';
        }

        /** NONE where there is no token, so that readers need not ask for the end. */
        int kindAt(int t) {
            return t >= 0 && t < tokens ? kinds[t] : NONE;
        }

        boolean isHole(int t) {
            return kindAt(t) == HOLE;
        }

        /** Only to be asked of a hole. */
        int digitOf(int t) {
            return chars[starts[t] + 1] - '0';
        }

        boolean isCallName(int t) {
            return t >= 0 && t < tokens - 1 && kinds[t] == NAME && kinds[t + 1] == OPEN;
        }

        /**
         * The token behind the expression that begins with token t; NONE if none does, or if it
         * goes deeper than expressions may, with so many calls around it.
         */
        private int behindExpression(int t, int around) {
            int kind = kindAt(t);
            if (kind != NAME && kind != NUMBER && kind != HOLE) {
                return NONE;
            }
            if (!isCallName(t)) {
                return t + 1;
            }
            return around < MOST_DEPTH ? behindArguments(t + 2, around + 1) : NONE;
        }

        private int behindArguments(int first, int around) {
            if (kindAt(first) == CLOSE) {
                return first + 1;
            }
            int t = first;
            for (int n = 0; n < tokens; n++) {
                int behind = behindExpression(t, around);
                int kind = kindAt(behind);
                if (kind == CLOSE) {
                    return behind + 1;
                }
                if (kind != COMMA) {
                    return NONE;
                }
                t = behind + 1;
            }
            return NONE;
        }

        /** For a text that is one expression: its depth. */
        int deepestNesting() {
            int nesting = 0;
            int deepest = 0;
            for (int t = 0; t < tokens; t++) {
                if (kinds[t] == OPEN) {
                    nesting++;
                } else if (kinds[t] == CLOSE) {
                    nesting--;
                }
                deepest = Math.max(deepest, nesting);
            }
            return deepest;
        }

        boolean sameToken(int t, Text other, int u) {
            if (t < 0 || t >= tokens || u < 0 || u >= other.tokens) {
                return false;
            }
            int width = ends[t] - starts[t];
            if (width != other.ends[u] - other.starts[u]) {
                return false;
            }
            for (int p = 0; p < width; p++) {
                if (chars[starts[t] + p] != other.chars[other.starts[u] + p]) {
                    return false;
                }
            }
            return true;
        }

        boolean sameTokens(int t, int u, int count) {
            for (int n = 0; n < count; n++) {
                if (!sameToken(t + n, this, u + n)) {
                    return false;
                }
            }
            return true;
        }

        /** The characters of tokens first .. behind - 1 and of the space between them. */
        int spanSize(int first, int behind) {
            return first >= 0 && first < behind && behind <= tokens ? ends[behind - 1] - starts[first] : 0;
        }

        /** Appends the span of other's tokens first .. behind - 1, with its marks. */
        void appendSpan(Text other, int first, int behind) {
            int width = other.spanSize(first, behind);
            if (width == 0 || size + width > chars.length) {
                return;
            }
            int shift = size - other.starts[first];
            for (int t = first; t < behind; t++) {
                kinds[tokens] = other.kinds[t];
                starts[tokens] = other.starts[t] + shift;
                ends[tokens] = other.ends[t] + shift;
                tokens++;
            }
            appendCharacters(other, other.starts[first], other.ends[behind - 1]);
        }

        /** Appends the space before other's token t; behind its last one if there is no token t. */
        void appendSpace(Text other, int t) {
            int start = t > 0 && t <= other.tokens ? other.ends[t - 1] : 0;
            int end = t >= 0 && t < other.tokens ? other.starts[t] : other.size;
            appendCharacters(other, start, end);
        }

        private void appendCharacters(Text other, int start, int end) {
            int width = end - start;
            if (width <= 0 || size + width > chars.length) {
                return;
            }
            System.arraycopy(other.chars, start, chars, size, width);
            System.arraycopy(other.marks, start, marks, size, width);
            size += width;
        }

        /** Takes away token t and all that is behind the space before it. */
        void cutAt(int t) {
            if (t >= 0 && t < tokens) {
                size = starts[t];
                tokens = t;
            }
        }
    }

    /** The statements of a program and its expressions, by the places where they end. */
    private static final class Outline {
        private final int[] statementKinds;
        private int statementCount;
        private final int[] firsts;
        private final int[] lasts;
        private final int[] callsAround;
        private int count;
        private final int[] openCalls;

        Outline(int most) {
            statementKinds = new int[most];
            statementCount = 0;
            firsts = new int[most];
            lasts = new int[most];
            callsAround = new int[most];
            count = 0;
            openCalls = new int[MOST_DEPTH];
        }

        void become(Text text) {
            statementCount = 0;
            count = 0;
            int first = 0;
            for (int t = 0; t < text.tokens; t++) {
                if (text.kindAt(t) == SEMICOLON) {
                    addStatement(readStatement(text, first, t));
                    first = t + 1;
                }
            }
            if (first < text.tokens) {
                addStatement(OPAQUE_STATEMENT);
            }
        }

        private void addStatement(int kind) {
            if (statementCount < statementKinds.length) {
                statementKinds[statementCount] = kind;
                statementCount++;
            }
        }

        private int readStatement(Text text, int first, int semicolon) {
            if (text.behindExpression(first, 0) != semicolon || hasHole(text, first, semicolon)) {
                return OPAQUE_STATEMENT;
            }
            addExpressions(text, first, semicolon);
            if (text.isCallName(first)) {
                return CALL_STATEMENT;
            }
            return text.kindAt(first) == NAME ? NAME_STATEMENT : NUMBER_STATEMENT;
        }

        private static boolean hasHole(Text text, int first, int behind) {
            for (int t = first; t < behind; t++) {
                if (text.isHole(t)) {
                    return true;
                }
            }
            return false;
        }

        private void addExpressions(Text text, int first, int behind) {
            int around = 0;
            for (int t = first; t < behind; t++) {
                int kind = text.kindAt(t);
                if (text.isCallName(t) && around < MOST_DEPTH) {
                    openCalls[around] = t;
                    around++;
                } else if (kind == CLOSE && around > 0) {
                    around--;
                    addExpression(openCalls[around], t, around);
                } else if (kind == NAME || kind == NUMBER) {
                    addExpression(t, t, around);
                }
            }
        }

        private void addExpression(int first, int last, int around) {
            if (count < firsts.length) {
                firsts[count] = first;
                lasts[count] = last;
                callsAround[count] = around;
                count++;
            }
        }

        boolean endsWith(int k, int t) {
            return k < count && lasts[k] == t;
        }
    }

    /** A pattern and a template, and what the holes stood for when the pattern was last tried. */
    private static final class Rule {
        private final Text text;
        private int arrow;
        private final int[] holeFirsts;
        private final int[] holeBehinds;

        Rule() {
            text = new Text(BUFFER_SIZE);
            arrow = 0;
            holeFirsts = new int[DIGITS];
            holeBehinds = new int[DIGITS];
        }

        /** False if the characters are no rule: then this object is none until it becomes one. */
        boolean become(int[] from, int count) {
            text.become(from, count);
            arrow = text.behindExpression(0, 0);
            return text.kindAt(arrow) == ARROW
                && text.behindExpression(arrow + 1, 0) == text.tokens
                && knowsTemplateHoles();
        }

        private boolean knowsTemplateHoles() {
            int known = 0;
            for (int t = 0; t < text.tokens; t++) {
                if (text.isHole(t)) {
                    int hole = 1 << text.digitOf(t);
                    if (t > arrow && (known & hole) == 0) {
                        return false;
                    }
                    known |= hole;
                }
            }
            return true;
        }

        /**
         * Does the pattern fit the expression with the tokens first .. behind - 1? Token by token
         * is enough, without a tree: no name that stands alone is followed by an opening bracket.
         */
        boolean matches(Text other, int first, int behind) {
            for (int d = 0; d < DIGITS; d++) {
                holeFirsts[d] = NONE;
            }
            int t = first;
            for (int p = 0; p < arrow; p++) {
                if (text.isHole(p)) {
                    t = behindHole(text.digitOf(p), other, t);
                } else {
                    t = text.sameToken(p, other, t) ? t + 1 : NONE;
                }
                if (t == NONE) {
                    return false;
                }
            }
            return t == behind;
        }

        private int behindHole(int digit, Text other, int t) {
            int behind = other.behindExpression(t, 0);
            if (behind == NONE) {
                return NONE;
            }
            int first = holeFirsts[digit];
            if (first == NONE) {
                holeFirsts[digit] = t;
                holeBehinds[digit] = behind;
                return behind;
            }
            int count = behind - t;
            boolean same = holeBehinds[digit] - first == count && other.sameTokens(first, t, count);
            return same ? behind : NONE;
        }

        /** How many characters the template has with its holes filled from other. */
        int filledSize(Text other) {
            int filled = text.spanSize(arrow + 1, text.tokens);
            for (int t = arrow + 1; t < text.tokens; t++) {
                if (text.isHole(t)) {
                    int digit = text.digitOf(t);
                    filled += other.spanSize(holeFirsts[digit], holeBehinds[digit]) - text.spanSize(t, t + 1);
                }
            }
            return filled;
        }

        /** The template's own characters get the number as their mark; those in holes keep theirs. */
        void fill(Text piece, Text other, int number) {
            piece.empty();
            text.markSpan(0, text.size, number);
            for (int t = arrow + 1; t < text.tokens; t++) {
                if (t > arrow + 1) {
                    piece.appendSpace(text, t);
                }
                if (text.isHole(t)) {
                    int digit = text.digitOf(t);
                    piece.appendSpan(other, holeFirsts[digit], holeBehinds[digit]);
                } else {
                    piece.appendSpan(text, t, t + 1);
                }
            }
        }
    }

    /** The program text and its rewriting. */
    private static final class Program {
        private Text now;
        private Text next;
        private final Text saved;
        private final Text piece;
        private final Outline outline;
        private final int[] movedTo;
        private int rewritingCount;

        Program() {
            now = new Text(PROGRAM_SIZE);
            next = new Text(PROGRAM_SIZE);
            saved = new Text(PROGRAM_SIZE);
            piece = new Text(PROGRAM_SIZE);
            outline = new Outline(PROGRAM_SIZE);
            movedTo = new int[PROGRAM_SIZE];
            rewritingCount = 0;
        }

        void become(int[] from, int count) {
            now.become(from, count);
            outline.become(now);
            for (int k = 0; k < outline.count; k++) {
                now.markSpan(now.starts[outline.firsts[k]], now.ends[outline.lasts[k]], 0);
            }
            rewritingCount = 0;
        }

        void save() {
            saved.becomeCopy(now);
        }

        void restore(int rewritingsThen) {
            now.becomeCopy(saved);
            outline.become(now);
            rewritingCount = rewritingsThen;
        }

        int countFitting(Rule rule) {
            int fitting = 0;
            for (int k = 0; k < outline.count; k++) {
                if (rule.matches(now, outline.firsts[k], outline.lasts[k] + 1)) {
                    fitting++;
                }
            }
            return fitting;
        }

        /** False if a rewriting made too much of the program: then it waits to be restored. */
        boolean cycle(Rule[] rules, int count) {
            for (int r = 0; r < count && r < rules.length; r++) {
                if (!pass(rules[r])) {
                    return false;
                }
            }
            return true;
        }

        /**
         * Copies the program from now to next. Where an expression ends it is, with its arguments
         * gone over, the last thing in next, so that rewriting it moves nothing else.
         */
        private boolean pass(Rule rule) {
            int done = rewritingCount;
            int k = 0;
            next.empty();
            for (int t = 0; t < now.tokens; t++) {
                next.appendSpace(now, t);
                movedTo[t] = next.tokens;
                next.appendSpan(now, t, t + 1);
                if (outline.endsWith(k, t)) {
                    int first = movedTo[outline.firsts[k]];
                    int rest = now.size - now.ends[t];
                    if (rule.matches(next, first, next.tokens)
                        && !rewrite(rule, first, outline.callsAround[k], rest)) {
                        return false;
                    }
                    k++;
                }
            }
            next.appendSpace(now, now.tokens);
            if (rewritingCount > done) {
                Text old = now;
                now = next;
                next = old;
                outline.become(now);
            }
            return true;
        }

        private boolean rewrite(Rule rule, int first, int around, int rest) {
            if (next.starts[first] + rule.filledSize(next) + rest > PROGRAM_SIZE) {
                return false;
            }
            rule.fill(piece, next, rewritingCount + 1);
            if (around + piece.deepestNesting() > MOST_DEPTH) {
                return false;
            }
            next.cutAt(first);
            next.appendSpan(piece, 0, piece.tokens);
            rewritingCount++;
            return true;
        }
    }

    /** The steps from the loaded text to the program, traced again only when one of them changed. */
    private static final class Patch {
        private static final int WIDTH = PROGRAM_SIZE + 1;

        private final int[] costs;
        private final int[] steps;
        private int stepCount;
        private int changeCount;
        private boolean known;

        Patch() {
            costs = new int[(BUFFER_SIZE + 1) * WIDTH];
            steps = new int[BUFFER_SIZE + PROGRAM_SIZE];
            stepCount = 0;
            changeCount = 0;
            known = false;
        }

        void forget() {
            known = false;
        }

        void trace(int[] from, int count, Text to) {
            if (known || count > BUFFER_SIZE || to.size > PROGRAM_SIZE) {
                return;
            }
            weigh(from, count, to);
            walk(from, count, to);
            known = true;
        }

        /** The cost at (i, j): how many changes lead from the rest of from at i to that of to at j. */
        private void weigh(int[] from, int count, Text to) {
            for (int i = count; i >= 0; i--) {
                int row = i * WIDTH;
                for (int j = to.size; j >= 0; j--) {
                    int cost;
                    if (i == count) {
                        cost = to.size - j;
                    } else if (j == to.size) {
                        cost = count - i;
                    } else if (from[i] == to.chars[j]) {
                        cost = costs[row + WIDTH + j + 1];
                    } else {
                        cost = 1 + Math.min(costs[row + WIDTH + j], costs[row + j + 1]);
                    }
                    costs[row + j] = cost;
                }
            }
        }

        private void walk(int[] from, int count, Text to) {
            int i = 0;
            int j = 0;
            int most = count + to.size;
            stepCount = 0;
            changeCount = costs[0];
            for (int n = 0; n < most && (i < count || j < to.size); n++) {
                if (i < count && j < to.size && from[i] == to.chars[j]) {
                    steps[stepCount] = KEEP + from[i];
                    i++;
                    j++;
                } else if (i < count && deletes(i, j)) {
                    steps[stepCount] = DELETE + from[i];
                    i++;
                } else if (j < to.size) {
                    steps[stepCount] = INSERT + to.chars[j];
                    j++;
                }
                stepCount++;
            }
        }

        private boolean deletes(int i, int j) {
            return costs[i * WIDTH + j] == 1 + costs[(i + 1) * WIDTH + j];
        }
    }
}
