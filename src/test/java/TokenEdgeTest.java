import java.util.NoSuchElementException;

/** The edges of tokens: promises 8 and 9, sentence by sentence. */
final class TokenEdgeTest {
    private static final int[] FAR = {Integer.MIN_VALUE, Integer.MIN_VALUE + 1, Integer.MAX_VALUE - 1, Integer.MAX_VALUE};

    public static void main(String[] args) {
        places();
        blanks();
        wordsNumbersAndSigns();
        keywords();
        names();
        numbers();
        signs();
        anythingElse();
        howMany();
        ends();
        wrongWhat();
        noSuchToken();
        Check.finish();
    }

    /** Of each token its kind and its places: kind:first-behind. */
    private static String tokensOf(String text) {
        ProgramDesk desk = Check.desk(text);
        StringBuilder tokens = new StringBuilder();
        int count = desk.tokens();
        for (int k = 0; k < count; k++) {
            tokens.append(k == 0 ? "" : " ").append(desk.token(k, 0)).append(':');
            tokens.append(desk.token(k, 1)).append('-').append(desk.token(k, 2));
        }
        return tokens.toString();
    }

    private static void due(String text, String tokens) {
        Check.is("tokens of '" + text + "'", tokensOf(text), tokens);
    }

    private static void places() {
        Check.sentence("PLACES are counted from 0.");
        due("a", "2:0-1");
        due(" a", "2:1-2");
        Check.is("letter 0", Check.desk("ab").letter(0), 'a');
        Check.is("a fault at place 0", Check.desk("a").fault(0), 1);
    }

    private static void blanks() {
        Check.sentence("TOKENS stand one behind the other, with blanks (code 32) between or not");
        due("", "");
        due(" ", "");
        due(Check.repeat(" ", 240), "");
        due("ab12;", "2:0-2 3:2-4 4:4-5");
        due("  ab   12 ;  ", "2:2-4 3:7-9 4:10-11");
        due("a b", "2:0-1 2:2-3");
        due("1 2", "3:0-1 3:2-3");
        due("; ;", "4:0-1 4:2-3");
    }

    private static void wordsNumbersAndSigns() {
        Check.sentence("a WORD is all letters a .. z that follow one another, a NUMBER all digits 0 .. 9, any other character but a blank is a SIGN.");
        for (char c = 33; c <= 126; c++) {
            boolean word = c >= 'a' && c <= 'z';
            boolean number = c >= '0' && c <= '9';
            int tokens = word || number ? 1 : 2;
            Check.is("twice code " + (int) c, Check.desk("" + c + c).tokens(), tokens);
            Check.is("a and code " + (int) c, Check.desk("a" + c).tokens(), word ? 1 : 2);
            Check.is("code " + (int) c + " and 0", Check.desk(c + "0").tokens(), number ? 1 : 2);
        }
        due("az", "2:0-2");
        due("`az{", "5:0-1 2:1-3 4:3-4");
        due("/09:", "5:0-1 3:1-3 5:3-4");
        due("@AZ[", "5:0-1 5:1-2 5:2-3 5:3-4");
        due("<=", "4:0-1 4:1-2");
    }

    private static void keywords() {
        Check.sentence("KINDS: 1 a KEYWORD (fn, let, if, while, print, return)");
        for (String word : new String[] {"fn", "let", "if", "while", "print", "return"}) {
            due(word, "1:0-" + word.length());
            String shorter = word.substring(0, word.length() - 1);
            due(shorter, "2:0-" + shorter.length());
            due(word + "s", (word.length() < 6 ? "2:0-" : "5:0-") + (word.length() + 1));
            due("a" + word, (word.length() < 6 ? "2:0-" : "5:0-") + (word.length() + 1));
            due(word + "1", "1:0-" + word.length() + " 3:" + word.length() + "-" + (word.length() + 1));
        }
        due("main", "2:0-4");
        due("Fn", "5:0-1 2:1-2");
    }

    private static void names() {
        Check.sentence("2 a NAME (another word of at most 6 letters)");
        due("a", "2:0-1");
        due("z", "2:0-1");
        due("aaaaaa", "2:0-6");
        due("zzzzzz", "2:0-6");
        due("aaaaaaa", "5:0-7");
        due("zzzzzzz", "5:0-7");
        due("abcdef abcdefg", "2:0-6 5:7-14");
        Check.is("a name of six letters, declared and used", Check.faults(Check.desk("fn abcdef(){}")), "");
        Check.is("a word of seven letters is no name", Check.faults(Check.desk("fn abcdefg(){}")), "1@3");
        Check.is("names that differ in the sixth letter", Check.faults(Check.desk("fn f(abcdef){print abcdeg;}")), "3@19");
        Check.is("names that differ in the first letter", Check.faults(Check.desk("fn f(abcdef){print bbcdef;}")), "3@19");
        Check.is("names that differ in their length", Check.faults(Check.desk("fn f(abcde){print abcdee;}")), "3@18");
    }

    private static void numbers() {
        Check.sentence("3 a NUMBER of at most 4 digits");
        due("0", "3:0-1");
        due("9", "3:0-1");
        due("0000", "3:0-4");
        due("9999", "3:0-4");
        due("00000", "5:0-5");
        due("10000", "5:0-5");
        due("99999999999", "5:0-11");
        due("1234 12345", "3:0-4 5:5-10");
    }

    private static void signs() {
        Check.sentence("4 one of the signs + - * < = ( ) { } , ;");
        for (String sign : "+ - * < = ( ) { } , ;".split(" ")) {
            due(sign, "4:0-1");
            due("a" + sign + "1", "2:0-1 4:1-2 3:2-3");
        }
    }

    private static void anythingElse() {
        Check.sentence("and 5 anything else.");
        for (char c = 33; c <= 126; c++) {
            boolean named = "+-*<=(){},;".indexOf(c) >= 0;
            boolean word = c >= 'a' && c <= 'z';
            boolean number = c >= '0' && c <= '9';
            due(String.valueOf(c), (named ? 4 : word ? 2 : number ? 3 : 5) + ":0-1");
        }
        due(">", "5:0-1");
        due("/", "5:0-1");
    }

    private static void howMany() {
        Check.sentence("How many tokens there are.");
        Check.is("none", new ProgramDesk().tokens(), 0);
        Check.is("240", Check.desk(Check.repeat("+", 240)).tokens(), 240);
        Check.is("240, words and signs", Check.desk(Check.repeat("a;", 120)).tokens(), 240);
        Check.is("120 words", Check.desk(Check.repeat("a ", 120)).tokens(), 120);
        Check.is("one", Check.desk(Check.repeat("a", 240)).tokens(), 1);
        Check.is("one number", Check.desk(Check.repeat("7", 240)).tokens(), 1);
    }

    private static void ends() {
        Check.sentence("1 the place of its first character, 2 the place behind its last one");
        due(Check.repeat("a", 240), "5:0-240");
        due(Check.repeat(" ", 239) + "z", "2:239-240");
        due("fn f", "1:0-2 2:3-4");
        Check.sentence("3 the token that it is bound to (NONE for others).");
        ProgramDesk desk = Check.desk("fn f(a){print a;}");
        int[] bound = {-1, 1, -1, 3, -1, -1, -1, 3, -1, -1};
        Check.is("tokens", desk.tokens(), bound.length);
        for (int k = 0; k < bound.length; k++) {
            Check.is("bound to, of " + k, desk.token(k, 3), bound[k]);
        }
    }

    private static void wrongWhat() {
        Check.sentence("IllegalArgumentException when what is none of these; else NoSuchElementException when there is no such token.");
        ProgramDesk desk = Check.desk("fn main(n){print n;}");
        desk.run(3);
        Check.refusesAndKeeps("what -1", IllegalArgumentException.class, desk, () -> desk.token(0, -1));
        Check.refusesAndKeeps("what 4", IllegalArgumentException.class, desk, () -> desk.token(0, 4));
        for (int what : FAR) {
            Check.refusesAndKeeps("what " + what, IllegalArgumentException.class, desk, () -> desk.token(0, what));
        }
        Check.refusesAndKeeps("both, above", IllegalArgumentException.class, desk, () -> desk.token(10, 4));
        Check.refusesAndKeeps("both, below", IllegalArgumentException.class, desk, () -> desk.token(-1, -1));
        ProgramDesk empty = new ProgramDesk();
        Check.refusesAndKeeps("both, of no text", IllegalArgumentException.class, empty, () -> empty.token(0, 4));
    }

    private static void noSuchToken() {
        Check.sentence("else NoSuchElementException when there is no such token.");
        ProgramDesk desk = Check.desk("fn main(n){print n;}");
        desk.run(3);
        Check.is("the last token is there", desk.token(9, 0), 4);
        for (int what = 0; what < 4; what++) {
            int asked = what;
            Check.is("the first token, what " + what, Check.outcome(() -> desk.token(0, asked)), "nothing thrown");
            Check.is("the last token, what " + what, Check.outcome(() -> desk.token(9, asked)), "nothing thrown");
            Check.refusesAndKeeps("token -1, what " + what, NoSuchElementException.class, desk, () -> desk.token(-1, asked));
            Check.refusesAndKeeps("token 10, what " + what, NoSuchElementException.class, desk, () -> desk.token(10, asked));
            for (int k : FAR) {
                Check.refusesAndKeeps("token " + k, NoSuchElementException.class, desk, () -> desk.token(k, asked));
            }
        }
        ProgramDesk full = Check.desk(Check.repeat(";", 240));
        Check.is("token 239", full.token(239, 1), 239);
        Check.refusesAndKeeps("token 240", NoSuchElementException.class, full, () -> full.token(240, 1));
        full.remove(0, 1);
        Check.refusesAndKeeps("token 239, taken out", NoSuchElementException.class, full, () -> full.token(239, 1));
    }
}
