import java.util.NoSuchElementException;

/** Promises 8 and 9: tokens and token, but for what they are bound to (ReferenceTest). */
final class TokenTest {
    public static void main(String[] args) {
        kinds();
        places();
        wrongQuestions();
        Check.finish();
    }

    private static String kindsOf(String text) {
        ProgramDesk desk = Check.desk(text);
        StringBuilder kinds = new StringBuilder();
        for (int k = 0; k < desk.tokens(); k++) {
            kinds.append(desk.token(k, 0));
        }
        return kinds.toString();
    }

    private static void kinds() {
        Check.is("no token", kindsOf(""), "");
        Check.is("blanks alone", kindsOf("   "), "");
        Check.is("keywords", kindsOf("fn let if while print return"), "111111");
        Check.is("main is a name", kindsOf("main"), "2");
        Check.is("names that keywords are in", kindsOf("fnn f n le lett iff whil prin retur"), "222222222");
        Check.is("six and seven letters", kindsOf("abcdef abcdefg returns zzzzzz"), "2552");
        Check.is("a long word that begins as a keyword", kindsOf("letletlet whilewhile printprint"), "555");
        Check.is("four and five digits", kindsOf("0 1234 0000 12345 00000 9999999999"), "333555");
        Check.is("the signs", kindsOf("+-*<=(){},;"), "44444444444");
        Check.is("other signs", kindsOf("!\"#$%&'./:>?@[\\]^_`|~"), Check.repeat("5", 21));
        Check.is("great letters are signs, each one", kindsOf("AZ aB"), "5525");
        Check.is("a word and a number that touch", kindsOf("ab12cd"), "232");
        Check.is("words that blanks part", kindsOf("ab cd 1 2"), "2233");
    }

    private static void places() {
        ProgramDesk desk = Check.desk("  let ab=12;A");
        Check.is("tokens", desk.tokens(), 6);
        int[] start = {2, 6, 8, 9, 11, 12};
        int[] end = {5, 8, 9, 11, 12, 13};
        for (int k = 0; k < 6; k++) {
            Check.is("start of " + k, desk.token(k, 1), start[k]);
            Check.is("end of " + k, desk.token(k, 2), end[k]);
            Check.is("bound to, of " + k, desk.token(k, 3), ProgramDesk.NONE);
        }
        ProgramDesk full = Check.desk(Check.repeat(";", 240));
        Check.is("240 tokens", full.tokens(), 240);
        Check.is("end of the last", full.token(239, 2), 240);
        ProgramDesk one = Check.desk(Check.repeat("a", 240));
        Check.is("one token of 240", one.tokens(), 1);
        Check.is("its end", one.token(0, 2), 240);
        one.remove(0, 1);
        one.insert(119, ' ');
        Check.is("two tokens", one.token(1, 1), 120);
    }

    private static void wrongQuestions() {
        ProgramDesk desk = Check.desk("a b");
        Check.refuses("what -1", IllegalArgumentException.class, () -> desk.token(0, -1));
        Check.refuses("what 4", IllegalArgumentException.class, () -> desk.token(0, 4));
        Check.refuses("what 4 of no token", IllegalArgumentException.class, () -> desk.token(2, 4));
        for (int what = 0; what < 4; what++) {
            int asked = what;
            Check.refuses("token 2, what " + what, NoSuchElementException.class, () -> desk.token(2, asked));
            Check.refuses("token -1, what " + what, NoSuchElementException.class, () -> desk.token(-1, asked));
        }
        desk.remove(1, 2);
        Check.refuses("a token that is gone", NoSuchElementException.class, () -> desk.token(1, 0));
    }
}
