import java.util.NoSuchElementException;

/**
 * A desk for small programs: a text is edited and read at once, with all its faults; names are
 * traced to where they are declared; a name is changed everywhere, or a variable replaced by what
 * it stands for, when that changes nothing of what the program does; and the program can be run.
 */
public final class ProgramDesk {
    public static final int NONE = -1;

    /** Of characters; tokens and instructions are never more than these. */
    private static final int MOST = 240;

    /** The keywords in the document's order, then main, packed as rename() takes a name. */
    private static final int[] WORDS = {454, 20652, 201, 5645591, 21440080, 489345202, 468013};
    private static final int KEYWORDS = 6;
    private static final int MAIN = 6;

    private static final int LETTER_BITS = 5;
    private static final int LETTER_MASK = 31;
    private static final int NAME_LETTERS = 6;

    private final Machine machine = new Machine();
    private Draft draft = new Draft();
    /** A change is tried out here first, so that a refused one leaves the draft as it was. */
    private Draft trial = new Draft();

    public ProgramDesk() {
    }

    public boolean type(char c) {
        if (!isAllowed(c) || draft.text.size >= MOST) {
            return false;
        }
        draft.text.add(c);
        draft.fresh = false;
        return true;
    }

    public boolean word(int w) {
        if (w < 0 || w >= WORDS.length || draft.text.size + lettersIn(WORDS[w]) + 1 > MOST) {
            return false;
        }
        draft.text.addName(WORDS[w]);
        draft.text.add(' ');
        draft.fresh = false;
        return true;
    }

    public void insert(int at, char c) throws IllegalArgumentException, IndexOutOfBoundsException, IllegalStateException {
        if (!isAllowed(c)) {
            throw new IllegalArgumentException();
        }
        if (at < 0 || at > draft.text.size) {
            throw new IndexOutOfBoundsException();
        }
        if (draft.text.size >= MOST) {
            throw new IllegalStateException();
        }
        draft.text.putBefore(at, c);
        draft.fresh = false;
    }

    public void remove(int at, int n) throws IllegalArgumentException, IndexOutOfBoundsException {
        if (n < 0) {
            throw new IllegalArgumentException();
        }
        // The sum of at and n might wrap; this difference can't.
        if (at < 0 || n > draft.text.size - at) {
            throw new IndexOutOfBoundsException();
        }
        draft.text.takeOut(at, n);
        draft.fresh = false;
    }

    public int length() {
        return draft.text.size;
    }

    public char letter(int at) throws IndexOutOfBoundsException {
        if (at < 0 || at >= draft.text.size) {
            throw new IndexOutOfBoundsException();
        }
        return draft.text.letters[at];
    }

    public int tokens() {
        draft.refresh();
        return draft.tokens.count;
    }

    public int token(int k, int what) throws IllegalArgumentException, NoSuchElementException {
        if (what < 0 || what > 3) {
            throw new IllegalArgumentException();
        }
        draft.refresh();
        if (k < 0 || k >= draft.tokens.count) {
            throw new NoSuchElementException();
        }
        switch (what) {
            case 0:
                return draft.tokens.kind[k];
            case 1:
                return draft.tokens.start[k];
            case 2:
                return draft.tokens.end[k];
            default:
                return draft.names.bound[k];
        }
    }

    public int faults() {
        draft.refresh();
        return draft.faultCount;
    }

    public int fault(int k) throws NoSuchElementException {
        draft.refresh();
        if (k < 0 || k >= draft.faultCount) {
            throw new NoSuchElementException();
        }
        return draft.faultRow[k];
    }

    public int reference(int at, int j) throws NoSuchElementException {
        draft.refresh();
        int declared = draft.declarationAt(at);
        if (declared == NONE || j < 0) {
            throw new NoSuchElementException();
        }
        int before = 0;
        for (int k = 0; k < draft.tokens.count; k++) {
            if (draft.names.bound[k] == declared) {
                if (before == j) {
                    return draft.tokens.start[k];
                }
                before++;
            }
        }
        return NONE;
    }

    public int rename(int at, long name) throws IllegalArgumentException, IllegalStateException, NoSuchElementException, UnsupportedOperationException {
        if (!isName(name)) {
            throw new IllegalArgumentException();
        }
        draft.refresh();
        if (draft.faultCount > 0) {
            throw new IllegalStateException();
        }
        int declared = draft.declarationAt(at);
        if (declared == NONE) {
            throw new NoSuchElementException();
        }
        int changed = draft.referencesOf(declared);
        int growth = lettersIn((int) name) - lettersIn(draft.tokens.sense[declared]);
        if (draft.text.size + changed * growth > MOST) {
            throw new IllegalStateException();
        }
        trial.copyRenamed(draft, declared, (int) name);
        trial.refresh();
        if (trial.faultCount > 0 || !trial.meansTheSameAs(draft)) {
            throw new UnsupportedOperationException();
        }
        acceptTrial();
        return changed;
    }

    public int inline(int at) throws IllegalStateException, NoSuchElementException, UnsupportedOperationException {
        draft.refresh();
        if (draft.faultCount > 0) {
            throw new IllegalStateException();
        }
        int let = draft.declarationAt(at);
        if (let == NONE || draft.names.role[let] != Names.LET) {
            throw new NoSuchElementException();
        }
        if (draft.names.hasCall(let) || draft.names.isOvertaken(let) || draft.names.losesMeaning(let)) {
            throw new UnsupportedOperationException();
        }
        // Assignments to it were refused above, so all but the let itself are replaced.
        int replaced = draft.referencesOf(let) - 1;
        if (draft.sizeInlined(let, replaced) > MOST) {
            throw new IllegalStateException();
        }
        trial.copyInlined(draft, let);
        trial.refresh();
        if (trial.faultCount > 0) {
            throw new UnsupportedOperationException();
        }
        acceptTrial();
        return replaced;
    }

    public int run(int x) throws IllegalStateException, NoSuchElementException {
        draft.refresh();
        if (draft.faultCount > 0) {
            throw new IllegalStateException();
        }
        int main = draft.functions.find(WORDS[MAIN]);
        if (main == NONE) {
            throw new NoSuchElementException();
        }
        return machine.perform(draft, main, x);
    }

    public int output(int j) throws NoSuchElementException {
        if (j == -1) {
            return machine.printed;
        }
        if (j == -2) {
            return machine.given;
        }
        if (j < 0 || j >= machine.printed || j >= Machine.KEPT) {
            throw new NoSuchElementException();
        }
        return machine.kept[j];
    }

    private void acceptTrial() {
        Draft old = draft;
        draft = trial;
        trial = old;
    }

    private static boolean isAllowed(char c) {
        return c >= 32 && c <= 126;
    }

    private static boolean isName(long name) {
        if (name <= 0 || name >= 1L << LETTER_BITS * NAME_LETTERS) {
            return false;
        }
        for (int rest = (int) name; rest > 0; rest >>= LETTER_BITS) {
            int letter = rest & LETTER_MASK;
            if (letter < 1 || letter > 26) {
                return false;
            }
        }
        return keyword((int) name) == NONE;
    }

    private static int lettersIn(int name) {
        int count = 0;
        for (int rest = name; rest > 0; rest >>= LETTER_BITS) {
            count++;
        }
        return count;
    }

    /** Which keyword a packed word is, or NONE. */
    private static int keyword(int packed) {
        for (int w = 0; w < KEYWORDS; w++) {
            if (WORDS[w] == packed) {
                return w;
            }
        }
        return NONE;
    }

    /** The characters of a program. */
    private static final class Text {
        final char[] letters = new char[MOST];
        int size;

        void add(char c) {
            if (size < MOST) {
                letters[size] = c;
                size++;
            }
        }

        void addName(int name) {
            for (int rest = name; rest > 0; rest >>= LETTER_BITS) {
                add((char) ('a' - 1 + (rest & LETTER_MASK)));
            }
        }

        void addPiece(Text other, int from, int to) {
            for (int place = from; place < to; place++) {
                add(other.letters[place]);
            }
        }

        void putBefore(int at, char c) {
            for (int place = size; place > at; place--) {
                letters[place] = letters[place - 1];
            }
            letters[at] = c;
            size++;
        }

        void takeOut(int at, int n) {
            for (int place = at + n; place < size; place++) {
                letters[place - n] = letters[place];
            }
            size -= n;
        }
    }

    /** The tokens of a text. */
    private static final class Tokens {
        static final int BLANK = 0;
        static final int KEYWORD = 1;
        static final int NAME = 2;
        static final int NUMBER = 3;
        static final int SIGN = 4;
        static final int OTHER = 5;

        private static final int FN = 0;
        private static final String SIGNS = "+-*<=(){},;";
        private static final int NUMBER_DIGITS = 4;

        final int[] kind = new int[MOST];
        /** Which keyword, the packed name, the number's value or the sign's character. */
        final int[] sense = new int[MOST];
        final int[] start = new int[MOST];
        final int[] end = new int[MOST];
        int count;

        void readFrom(Text text) {
            count = 0;
            int last = BLANK;
            for (int place = 0; place < text.size; place++) {
                char c = text.letters[place];
                int group = groupOf(c);
                if (group == last && (group == NAME || group == NUMBER)) {
                    lengthen(c);
                } else if (group != BLANK) {
                    begin(place, group, c);
                }
                last = group;
            }
            for (int k = 0; k < count; k++) {
                settleKind(k);
            }
        }

        /** The token that has a character at a place, or NONE. */
        int at(int place) {
            for (int k = 0; k < count; k++) {
                if (start[k] <= place && place < end[k]) {
                    return k;
                }
            }
            return NONE;
        }

        /** The keyword that begins a part, if there may be another one. */
        boolean isFn(int k) {
            return kind[k] == KEYWORD && sense[k] == FN;
        }

        private static int groupOf(char c) {
            if (c == ' ') {
                return BLANK;
            }
            if (c >= 'a' && c <= 'z') {
                return NAME;
            }
            if (c >= '0' && c <= '9') {
                return NUMBER;
            }
            return SIGNS.indexOf(c) >= 0 ? SIGN : OTHER;
        }

        private void begin(int place, int group, char c) {
            kind[count] = group;
            start[count] = place;
            end[count] = place + 1;
            sense[count] = c;
            if (group == NAME) {
                sense[count] = c - 'a' + 1;
            } else if (group == NUMBER) {
                sense[count] = c - '0';
            }
            count++;
        }

        private void lengthen(char c) {
            int k = count - 1;
            int before = end[k] - start[k];
            if (kind[k] == NUMBER) {
                sense[k] = sense[k] * 10 + c - '0';
            } else if (before < NAME_LETTERS) {
                sense[k] |= c - 'a' + 1 << LETTER_BITS * before;
            }
            end[k]++;
        }

        private void settleKind(int k) {
            int size = end[k] - start[k];
            if (kind[k] == NUMBER && size > NUMBER_DIGITS || kind[k] == NAME && size > NAME_LETTERS) {
                kind[k] = OTHER;
            } else if (kind[k] == NAME && keyword(sense[k]) != NONE) {
                kind[k] = KEYWORD;
                sense[k] = keyword(sense[k]);
            }
        }
    }

    /** The parts that are functions, in the order of the text. */
    private static final class Functions {
        static final int PARTS = 4;

        /** The token of the name; of the parameters, the first stands two behind it, and so on. */
        final int[] name = new int[PARTS];
        final int[] parameters = new int[PARTS];
        final int[] entry = new int[PARTS];
        int count;
        private final Tokens tokens;

        Functions(Tokens tokens) {
            this.tokens = tokens;
        }

        void add(int nameToken, int parameterCount, int firstInstruction) {
            if (count < PARTS) {
                name[count] = nameToken;
                parameters[count] = parameterCount;
                entry[count] = firstInstruction;
                count++;
            }
        }

        /** The first function that has a packed name, or NONE. */
        int find(int packed) {
            for (int f = 0; f < count; f++) {
                if (tokens.sense[name[f]] == packed) {
                    return f;
                }
            }
            return NONE;
        }

        /** Whether no function before has the name that stands at a function's name token. */
        boolean isFirst(int nameToken) {
            int f = find(tokens.sense[nameToken]);
            return f != NONE && name[f] == nameToken;
        }
    }

    /** What the NAME tokens of functions are, and what they are bound to. */
    private static final class Names {
        static final int NOTHING = 0;
        static final int FUNCTION = 1;
        static final int PARAMETER = 2;
        static final int LET = 3;
        static final int VARIABLE = 4;
        static final int ASSIGNMENT = 5;
        static final int CALL = 6;

        final int[] role = new int[MOST];
        final int[] bound = new int[MOST];
        /** The number of a token's fault, or NONE. */
        final int[] wrong = new int[MOST];
        /** Of a parameter or let: the token that opens its scope, and where it is in force from. */
        final int[] scope = new int[MOST];
        final int[] from = new int[MOST];
        /** Of a token that opens a scope: the token where the scope ends. */
        final int[] until = new int[MOST];
        /** Of a call: how many expressions it has. */
        final int[] sent = new int[MOST];
        private final Tokens tokens;
        private final Functions functions;

        Names(Tokens tokens, Functions functions) {
            this.tokens = tokens;
            this.functions = functions;
        }

        void clear() {
            for (int k = 0; k < tokens.count; k++) {
                role[k] = NOTHING;
                bound[k] = NONE;
                wrong[k] = NONE;
            }
        }

        /** Binds the tokens of one function; all functions must have been found before. */
        void bind(int first, int limit) {
            for (int k = first; k < limit; k++) {
                switch (role[k]) {
                    case FUNCTION:
                        bindOr(k, functions.isFirst(k) ? k : NONE, 6);
                        break;
                    case PARAMETER:
                    case LET:
                        bindOr(k, isDeclaredBefore(k, first) ? NONE : k, 2);
                        break;
                    case VARIABLE:
                    case ASSIGNMENT:
                        bindOr(k, meaning(k, tokens.sense[k]), 3);
                        break;
                    case CALL:
                        bindCall(k);
                        break;
                    default:
                        break;
                }
            }
        }

        private void bindOr(int k, int declared, int fault) {
            bound[k] = declared;
            if (declared == NONE) {
                wrong[k] = fault;
            }
        }

        private void bindCall(int k) {
            int f = functions.find(tokens.sense[k]);
            if (f == NONE) {
                wrong[k] = 4;
                return;
            }
            bound[k] = functions.name[f];
            if (sent[k] != functions.parameters[f]) {
                wrong[k] = 5;
            }
        }

        private boolean isDeclaredBefore(int k, int first) {
            for (int j = first; j < k; j++) {
                if (declares(j, tokens.sense[k]) && scope[j] == scope[k]) {
                    return true;
                }
            }
            return false;
        }

        private boolean declares(int k, int name) {
            return (role[k] == PARAMETER || role[k] == LET) && bound[k] == k && tokens.sense[k] == name;
        }

        /** The declaration of a variable's name that is in force at a token, or NONE. */
        int meaning(int at, int name) {
            // A scope within begins later: the nearest one before is the one that shadows.
            for (int k = at - 1; k >= 0 && role[k] != FUNCTION; k--) {
                if (declares(k, name) && from[k] <= at && at < until[scope[k]]) {
                    return k;
                }
            }
            return NONE;
        }

        int firstOfExpression(int let) {
            return let + 2;
        }

        int semicolonOf(int let) {
            return from[let] - 1;
        }

        boolean hasCall(int let) {
            for (int k = firstOfExpression(let); k < semicolonOf(let); k++) {
                if (role[k] == CALL) {
                    return true;
                }
            }
            return false;
        }

        /** Whether an assignment behind the let changes it or a variable of its expression. */
        boolean isOvertaken(int let) {
            for (int k = from[let]; k < until[scope[let]]; k++) {
                if (role[k] == ASSIGNMENT && (bound[k] == let || standsOn(let, bound[k]))) {
                    return true;
                }
            }
            return false;
        }

        private boolean standsOn(int let, int declared) {
            for (int k = firstOfExpression(let); k < semicolonOf(let); k++) {
                if (bound[k] == declared) {
                    return true;
                }
            }
            return false;
        }

        /** Whether the expression would mean something else at a variable that it replaces. */
        boolean losesMeaning(int let) {
            for (int k = from[let]; k < until[scope[let]]; k++) {
                if (bound[k] == let && !keepsMeaningAt(let, k)) {
                    return true;
                }
            }
            return false;
        }

        private boolean keepsMeaningAt(int let, int at) {
            for (int k = firstOfExpression(let); k < semicolonOf(let); k++) {
                if (role[k] == VARIABLE && meaning(at, tokens.sense[k]) != bound[k]) {
                    return false;
                }
            }
            return true;
        }
    }

    /** The instructions that the functions were turned into, for a machine with a stack. */
    private static final class Code {
        static final int PUSH = 0;
        static final int LOAD = 1;
        static final int STORE = 2;
        static final int CALL = 3;
        static final int TEST = 4;
        static final int TURN = 5;
        static final int JUMP = 6;
        static final int PRINT = 7;
        static final int RETURN = 8;
        // The instructions for + - * < bear the codes of these signs, which are none of the above.

        final int[] operation = new int[MOST];
        /** A number, a NAME token or the instruction to go to. */
        final int[] operand = new int[MOST];
        int count;

        /** Nothing that is read has more instructions than tokens, so all of them find room. */
        void add(int what, int with) {
            if (count < MOST) {
                operation[count] = what;
                operand[count] = with;
                count++;
            }
        }

        void aimHere(int instruction) {
            if (instruction >= 0 && instruction < count) {
                operand[instruction] = count;
            }
        }
    }

    /** Reads the tokens of one part as a function. */
    private static final class Grammar {
        private static final int LET = 1;
        private static final int IF = 2;
        private static final int WHILE = 3;
        private static final int PRINT = 4;

        private static final int BLOCKS = 4;
        private static final int BRACKETS = 4;

        /** When reading fails, this is the token that can't stand there. */
        int next;
        private int limit;
        private int blocks;
        /** Of each open block: its {, its test and the start of its while's expression (or NONE). */
        private final int[] opener = new int[BLOCKS];
        private final int[] test = new int[BLOCKS];
        private final int[] again = new int[BLOCKS];
        private final Tokens tokens;
        private final Names names;
        private final Functions functions;
        private final Code code;

        Grammar(Tokens tokens, Names names, Functions functions, Code code) {
            this.tokens = tokens;
            this.names = names;
            this.functions = functions;
            this.code = code;
        }

        boolean readFunction(int first, int behind) {
            next = first;
            limit = behind;
            blocks = 0;
            int entry = code.count;
            if (!tokens.isFn(first)) {
                return false;
            }
            next++;
            if (!takeName(Names.FUNCTION)) {
                return false;
            }
            int parameters = readParameters();
            if (parameters == NONE || !openBlock(false, NONE)) {
                return false;
            }
            for (int turn = 0; turn < MOST && blocks > 0; turn++) {
                if (!readStatement()) {
                    return false;
                }
            }
            if (blocks > 0 || next < limit) {
                return false;
            }
            code.add(Code.PUSH, 0);
            code.add(Code.RETURN, 0);
            functions.add(first + 1, parameters, entry);
            return true;
        }

        /** How many there are, or NONE when they can't be read. */
        private int readParameters() {
            int bracket = next;
            if (!takeSign('(')) {
                return NONE;
            }
            names.until[bracket] = limit;
            if (takeSign(')')) {
                return 0;
            }
            for (int count = 1; count <= MOST; count++) {
                int name = next;
                if (!takeName(Names.PARAMETER)) {
                    return NONE;
                }
                names.scope[name] = bracket;
                names.from[name] = next;
                if (takeSign(')')) {
                    return count;
                }
                if (!takeSign(',')) {
                    return NONE;
                }
            }
            return NONE;
        }

        /** Reads a statement that has no block, or up to behind the { or } of one that has. */
        private boolean readStatement() {
            if (takeSign('}')) {
                closeBlock();
                return true;
            }
            if (next >= limit) {
                return false;
            }
            if (tokens.kind[next] == Tokens.NAME) {
                return readStore(Names.ASSIGNMENT);
            }
            if (tokens.kind[next] != Tokens.KEYWORD) {
                return openBlock(false, NONE);
            }
            if (tokens.isFn(next)) {
                return false;
            }
            int keyword = tokens.sense[next];
            int start = code.count;
            next++;
            switch (keyword) {
                case LET:
                    return readStore(Names.LET);
                case IF:
                    return readExpression(0) && openBlock(true, NONE);
                case WHILE:
                    return readExpression(0) && openBlock(true, start);
                default:
                    return readUse(keyword == PRINT ? Code.PRINT : Code.RETURN);
            }
        }

        private boolean readStore(int role) {
            int name = next;
            if (!takeName(role) || !takeSign('=') || !readExpression(0) || !takeSign(';')) {
                return false;
            }
            if (role == Names.LET && blocks > 0) {
                names.scope[name] = opener[blocks - 1];
                names.from[name] = next;
            }
            code.add(Code.STORE, name);
            return true;
        }

        private boolean readUse(int instruction) {
            if (!readExpression(0) || !takeSign(';')) {
                return false;
            }
            code.add(instruction, 0);
            return true;
        }

        private boolean openBlock(boolean tested, int start) {
            if (blocks >= BLOCKS || !takeSign('{')) {
                return false;
            }
            opener[blocks] = next - 1;
            again[blocks] = start;
            test[blocks] = NONE;
            if (tested) {
                test[blocks] = code.count;
                code.add(Code.TEST, 0);
            }
            if (start != NONE) {
                code.add(Code.TURN, 0);
            }
            blocks++;
            return true;
        }

        private void closeBlock() {
            blocks--;
            names.until[opener[blocks]] = next - 1;
            if (again[blocks] != NONE) {
                code.add(Code.JUMP, again[blocks]);
            }
            code.aimHere(test[blocks]);
        }

        /** The brackets are those that are open around it. */
        private boolean readExpression(int brackets) {
            if (!readSum(brackets)) {
                return false;
            }
            if (!takeSign('<')) {
                return true;
            }
            if (!readSum(brackets)) {
                return false;
            }
            code.add('<', 0);
            return true;
        }

        private boolean readSum(int brackets) {
            if (!readTerm(brackets)) {
                return false;
            }
            for (int more = 0; more < MOST; more++) {
                char sign = takeSign('+') ? '+' : '-';
                if (sign == '-' && !takeSign('-')) {
                    return true;
                }
                if (!readTerm(brackets)) {
                    return false;
                }
                code.add(sign, 0);
            }
            return true;
        }

        private boolean readTerm(int brackets) {
            if (!readFactor(brackets)) {
                return false;
            }
            for (int more = 0; more < MOST && takeSign('*'); more++) {
                if (!readFactor(brackets)) {
                    return false;
                }
                code.add('*', 0);
            }
            return true;
        }

        private boolean readFactor(int brackets) {
            int first = next;
            if (first < limit && tokens.kind[first] == Tokens.NUMBER) {
                next++;
                code.add(Code.PUSH, tokens.sense[first]);
                return true;
            }
            boolean named = takeName(Names.VARIABLE);
            if (brackets < BRACKETS && takeSign('(')) {
                return named ? readCall(first, brackets + 1) : readExpression(brackets + 1) && takeSign(')');
            }
            if (named) {
                code.add(Code.LOAD, first);
            }
            return named;
        }

        private boolean readCall(int name, int brackets) {
            names.role[name] = Names.CALL;
            names.sent[name] = 0;
            boolean closed = takeSign(')');
            for (int count = 1; count <= MOST && !closed; count++) {
                if (!readExpression(brackets)) {
                    return false;
                }
                names.sent[name] = count;
                closed = takeSign(')');
                if (!closed && !takeSign(',')) {
                    return false;
                }
            }
            code.add(Code.CALL, name);
            return closed;
        }

        private boolean takeSign(char sign) {
            if (next >= limit || tokens.kind[next] != Tokens.SIGN || tokens.sense[next] != sign) {
                return false;
            }
            next++;
            return true;
        }

        private boolean takeName(int role) {
            if (next >= limit || tokens.kind[next] != Tokens.NAME) {
                return false;
            }
            names.role[next] = role;
            next++;
            return true;
        }
    }

    /** A text and all that is read out of it. */
    private static final class Draft {
        final Text text = new Text();
        final Tokens tokens = new Tokens();
        final Functions functions = new Functions(tokens);
        final Names names = new Names(tokens, functions);
        final Code code = new Code();
        private final Grammar grammar = new Grammar(tokens, names, functions, code);

        /** The first token of each part; behind the last part, how many tokens there are. */
        private final int[] part = new int[Functions.PARTS + 1];
        /** The place where each part is broken, or NONE. */
        private final int[] broken = new int[Functions.PARTS];
        private int parts;

        /** A token has one fault at most, and a part one more. */
        final int[] faultRow = new int[MOST + Functions.PARTS];
        int faultCount;
        /** False since the text was changed; it is read again when that is asked for. */
        boolean fresh = true;

        void refresh() {
            if (fresh) {
                return;
            }
            fresh = true;
            tokens.readFrom(text);
            names.clear();
            functions.count = 0;
            code.count = 0;
            splitParts();
            for (int p = 0; p < parts; p++) {
                boolean whole = grammar.readFunction(part[p], part[p + 1]);
                broken[p] = whole ? NONE : brokenPlace(part[p + 1]);
            }
            faultCount = 0;
            for (int p = 0; p < parts; p++) {
                judgePart(p);
            }
        }

        private void splitParts() {
            parts = 0;
            for (int k = 0; k < tokens.count; k++) {
                if ((k == 0 || tokens.isFn(k)) && parts < Functions.PARTS) {
                    part[parts] = k;
                    parts++;
                }
            }
            part[parts] = tokens.count;
        }

        private int brokenPlace(int limit) {
            return grammar.next < limit ? tokens.start[grammar.next] : tokens.end[limit - 1];
        }

        private void judgePart(int p) {
            if (broken[p] != NONE) {
                addFault(1, broken[p]);
                return;
            }
            names.bind(part[p], part[p + 1]);
            for (int k = part[p]; k < part[p + 1]; k++) {
                if (names.wrong[k] != NONE) {
                    addFault(names.wrong[k], tokens.start[k]);
                }
            }
        }

        private void addFault(int number, int place) {
            if (faultCount < faultRow.length) {
                faultRow[faultCount] = number + 8 * place;
                faultCount++;
            }
        }

        /** What the token at a place is bound to, or NONE. */
        int declarationAt(int place) {
            int k = tokens.at(place);
            return k == NONE ? NONE : names.bound[k];
        }

        int referencesOf(int declared) {
            int count = 0;
            for (int k = 0; k < tokens.count; k++) {
                if (names.bound[k] == declared) {
                    count++;
                }
            }
            return count;
        }

        /** Whether each token is bound as there, and main is the same function. */
        boolean meansTheSameAs(Draft other) {
            for (int k = 0; k < tokens.count; k++) {
                if (names.bound[k] != other.names.bound[k]) {
                    return false;
                }
            }
            return functions.find(WORDS[MAIN]) == other.functions.find(WORDS[MAIN]);
        }

        void copyRenamed(Draft other, int declared, int name) {
            fresh = false;
            text.size = 0;
            int place = 0;
            for (int k = 0; k < other.tokens.count; k++) {
                if (other.names.bound[k] == declared) {
                    text.addPiece(other.text, place, other.tokens.start[k]);
                    text.addName(name);
                    place = other.tokens.end[k];
                }
            }
            text.addPiece(other.text, place, other.text.size);
        }

        /** How long the text would be with a let taken out and its expression put in. */
        int sizeInlined(int let, int replaced) {
            int semicolon = names.semicolonOf(let);
            int gone = tokens.end[semicolon] - tokens.start[let - 1];
            int expression = tokens.end[semicolon - 1] - tokens.start[names.firstOfExpression(let)];
            int variable = tokens.end[let] - tokens.start[let];
            return text.size - gone + replaced * (expression + 2 - variable);
        }

        void copyInlined(Draft other, int let) {
            fresh = false;
            int semicolon = other.names.semicolonOf(let);
            int first = other.tokens.start[other.names.firstOfExpression(let)];
            int behind = other.tokens.end[semicolon - 1];
            text.size = 0;
            text.addPiece(other.text, 0, other.tokens.start[let - 1]);
            int place = other.tokens.end[semicolon];
            for (int k = semicolon; k < other.tokens.count; k++) {
                if (other.names.bound[k] == let) {
                    text.addPiece(other.text, place, other.tokens.start[k]);
                    text.add('(');
                    text.addPiece(other.text, first, behind);
                    text.add(')');
                    place = other.tokens.end[k];
                }
            }
            text.addPiece(other.text, place, other.text.size);
        }
    }

    /**
     * Runs a draft without faults, in which every name is bound and every call has a function; keeps
     * what came of the latest run.
     */
    private static final class Machine {
        static final int KEPT = 32;
        private static final int CALLS = 8;
        private static final int COUNTED = 300;
        /** Far above what 300 turns and calls of such a short text can take. */
        private static final int STEPS = 1000000;

        private static final int GOING = -1;
        private static final int ENDED = 0;
        private static final int TOO_LONG = 1;
        private static final int TOO_DEEP = 2;

        final int[] kept = new int[KEPT];
        int printed;
        int given;

        /** A call's variables stand at the tokens that declare them. */
        private final int[] variables = new int[CALLS * MOST];
        /** A value that waits here takes two characters of its call's function at least. */
        private final int[] stack = new int[CALLS * MOST / 2];
        private int height;
        private final int[] back = new int[CALLS];
        private int open;
        private int counted;
        private int at;
        private int outcome;

        int perform(Draft draft, int main, int x) {
            printed = 0;
            given = 0;
            height = 0;
            open = 0;
            counted = 0;
            outcome = GOING;
            for (int p = 0; p < draft.functions.parameters[main]; p++) {
                push(p == 0 ? x : 0);
            }
            begin(draft.functions, main);
            for (int step = 0; step < STEPS && outcome == GOING && at < draft.code.count; step++) {
                advance(draft, draft.code.operation[at], draft.code.operand[at]);
            }
            return outcome;
        }

        private void advance(Draft draft, int operation, int operand) {
            at++;
            switch (operation) {
                case Code.PUSH:
                    push(operand);
                    break;
                case Code.LOAD:
                    push(variables[slot(draft.names.bound[operand])]);
                    break;
                case Code.STORE:
                    variables[slot(draft.names.bound[operand])] = pop();
                    break;
                case Code.CALL:
                    begin(draft.functions, draft.functions.find(draft.tokens.sense[operand]));
                    break;
                case Code.TEST:
                    if (pop() == 0) {
                        at = operand;
                    }
                    break;
                case Code.TURN:
                    countOne();
                    break;
                case Code.JUMP:
                    at = operand;
                    break;
                case Code.PRINT:
                    keep(pop());
                    break;
                case Code.RETURN:
                    end(pop());
                    break;
                default:
                    combine(operation);
                    break;
            }
        }

        private void combine(int sign) {
            int right = pop();
            int left = pop();
            switch (sign) {
                case '+':
                    push(left + right);
                    break;
                case '-':
                    push(left - right);
                    break;
                case '*':
                    push(left * right);
                    break;
                default:
                    push(left < right ? 1 : 0);
                    break;
            }
        }

        private void begin(Functions functions, int f) {
            if (open >= CALLS) {
                outcome = TOO_DEEP;
                return;
            }
            countOne();
            if (outcome != GOING) {
                return;
            }
            back[open] = at;
            open++;
            for (int p = functions.parameters[f] - 1; p >= 0; p--) {
                variables[slot(functions.name[f] + 2 + 2 * p)] = pop();
            }
            at = functions.entry[f];
        }

        private void end(int value) {
            open--;
            if (open == 0) {
                given = value;
                outcome = ENDED;
            } else {
                at = back[open];
                push(value);
            }
        }

        private void countOne() {
            if (counted >= COUNTED) {
                outcome = TOO_LONG;
            } else {
                counted++;
            }
        }

        private void keep(int value) {
            if (printed < KEPT) {
                kept[printed] = value;
            }
            printed++;
        }

        private int slot(int declared) {
            return (open - 1) * MOST + declared;
        }

        private void push(int value) {
            if (height < stack.length) {
                stack[height] = value;
                height++;
            }
        }

        private int pop() {
            if (height == 0) {
                return 0;
            }
            height--;
            return stack[height];
        }
    }
}
