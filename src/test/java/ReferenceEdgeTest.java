import java.util.NoSuchElementException;

/** The edges of what tokens are bound to: promises 9 and 12, sentence by sentence. */
final class ReferenceEdgeTest {
    private static final int[] FAR = {Integer.MIN_VALUE, Integer.MIN_VALUE + 1, Integer.MAX_VALUE - 1, Integer.MAX_VALUE};

    public static void main(String[] args) {
        boundToThemselves();
        boundToWhatTheyMean();
        notBound();
        firstAndLastReference();
        boundToTheSame();
        placesOfAToken();
        wrongPlaces();
        belowZero();
        Check.finish();
    }

    /** What each NAME token is bound to, by its place: place>place, or place>- when it is not bound. */
    private static void due(String text, String bound) {
        ProgramDesk desk = Check.desk(text);
        StringBuilder found = new StringBuilder();
        int tokens = desk.tokens();
        for (int k = 0; k < tokens; k++) {
            int to = desk.token(k, 3);
            if (desk.token(k, 0) == 2) {
                found.append(found.length() == 0 ? "" : " ").append(desk.token(k, 1)).append('>');
                found.append(to == ProgramDesk.NONE ? "-" : String.valueOf(desk.token(to, 1)));
            } else {
                Check.is("bound, token " + k + " of " + text, to, ProgramDesk.NONE);
            }
        }
        Check.is("bound in " + text, found.toString(), bound);
    }

    private static void boundToThemselves() {
        Check.sentence("that of a let, a parameter, the name behind fn, itself, if it is one of these (but for 2 and 6)");
        due("fn f(a,b){let c=1;}", "3>3 5>5 7>7 14>14");
        due("fn f(a,a){}", "3>3 5>5 7>-");
        due("fn f(){let a=1;let a=2;}", "3>3 11>11 19>-");
        due("fn f(){}fn f(a){}", "3>3 11>- 13>13");
    }

    private static void boundToWhatTheyMean() {
        Check.sentence("A variable or an assignment (NAME =) means the declaration of that name that is in force there.");
        due("fn f(a,b){b=a;}", "3>3 5>5 7>7 10>7 12>5");
        due("fn f(a){{let b=a;b=a;}let b=a;b=a;}", "3>3 5>5 13>13 15>5 17>13 19>5 26>26 28>5 30>26 32>5");
        due("fn f(a){{let a=1;}a=a;}", "3>3 5>5 13>13 18>5 20>5");
        Check.sentence("others to what they mean.");
        due("fn f(a){a=a;}", "3>3 5>5 8>5 10>5");
        due("fn f(a){print f(a);}", "3>3 5>5 14>3 16>5");
        due("fn f(f){print f(f);}", "3>3 5>5 14>3 16>5");
        due("fn f(){print g();}fn g(){}", "3>3 13>21 21>21");
        due("fn f(){print f(1);}", "3>3 13>3");
        due("fn f(){let a=1;{let a=a;a=a;}a=a;}", "3>3 11>11 20>20 22>11 24>20 26>20 29>11 31>11");
    }

    private static void notBound() {
        Check.sentence("A NAME token (in a function) is BOUND to the token that declares it");
        due("fn f(){print b;b=1;}", "3>3 13>- 15>-");
        due("fn f(){print g();}", "3>3 13>-");
        due("f fn g(a){print a;}", "0>- 5>5 7>7 16>7");
        due("fn f(a){print a;", "3>- 5>- 14>-");
        due("fn f(a){print a;?}fn g(b){print b;}", "3>- 5>- 14>- 21>21 23>23 32>23");
        due("fn f(a){}a", "3>- 5>- 9>-");
    }

    private static void firstAndLastReference() {
        Check.sentence("The j-th reference (from 0, in the order of the text) of the token that has a character at a place: the place of its first character; NONE when there are not so many.");
        ProgramDesk desk = Check.desk("fn f(a){a=a;}fn g(b){print g(g(b));}");
        int[] places = {5, 8, 10};
        for (int at : places) {
            for (int j = 0; j < 3; j++) {
                Check.is("reference(" + at + ", " + j + ")", desk.reference(at, j), places[j]);
            }
            Check.is("reference(" + at + ", 3)", desk.reference(at, 3), ProgramDesk.NONE);
            Check.is("reference(" + at + ", greatest)", desk.reference(at, Integer.MAX_VALUE), ProgramDesk.NONE);
        }
        Check.is("the only one", desk.reference(3, 0), 3);
        Check.is("one more than the only one", desk.reference(3, 1), ProgramDesk.NONE);
        Check.is("the first of a call", desk.reference(29, 0), 16);
        Check.is("the last of a call", desk.reference(16, 2), 29);
        Check.is("one more of a call", desk.reference(16, 3), ProgramDesk.NONE);
        // The declaration may stand behind what means it.
        ProgramDesk later = Check.desk("fn f(){print g();}fn g(){}");
        Check.is("the first in the text", later.reference(21, 0), 13);
        Check.is("the second in the text", later.reference(21, 1), 21);
        ProgramDesk full = Check.desk("fn f(a){print " + Check.repeat("a+", 111) + "a;}");
        Check.is("the last of many", full.reference(5, 112), 236);
        Check.is("one more than many", full.reference(5, 113), ProgramDesk.NONE);
    }

    private static void boundToTheSame() {
        Check.sentence("REFERENCES of a token: all that are bound to the same.");
        ProgramDesk desk = Check.desk("fn a(a){let b=a;{let a=b;print a;}return a(a);}");
        int[][] same = {{3, 41}, {5, 14, 43}, {12, 23}, {21, 31}};
        for (int[] places : same) {
            for (int at : places) {
                for (int j = 0; j < places.length; j++) {
                    Check.is("reference(" + at + ", " + j + ")", desk.reference(at, j), places[j]);
                }
                Check.is("one more at " + at, desk.reference(at, places.length), ProgramDesk.NONE);
            }
        }
    }

    private static void placesOfAToken() {
        Check.sentence("of the token that has a character at a place");
        ProgramDesk desk = Check.desk("fn f(abc,d){print abc;}");
        for (int at = 5; at < 8; at++) {
            Check.is("at " + at, desk.reference(at, 1), 18);
        }
        Check.refuses("before its first character", NoSuchElementException.class, () -> desk.reference(4, 0));
        Check.refuses("behind its last character", NoSuchElementException.class, () -> desk.reference(8, 0));
        Check.is("the next name", desk.reference(9, 0), 9);
        Check.refuses("a blank before it", NoSuchElementException.class, () -> desk.reference(17, 0));
        Check.is("its first character", desk.reference(18, 0), 5);
        Check.is("its last character", desk.reference(20, 0), 5);
        Check.refuses("a sign behind it", NoSuchElementException.class, () -> desk.reference(21, 0));
    }

    private static void wrongPlaces() {
        Check.sentence("NoSuchElementException when no token there is bound, or j is below 0.");
        ProgramDesk desk = Check.desk("fn main(n){print n;} ");
        desk.run(5);
        Check.refusesAndKeeps("a keyword at place 0", NoSuchElementException.class, desk, () -> desk.reference(0, 0));
        Check.refusesAndKeeps("place -1", NoSuchElementException.class, desk, () -> desk.reference(-1, 0));
        Check.refusesAndKeeps("the last token", NoSuchElementException.class, desk, () -> desk.reference(19, 0));
        Check.refusesAndKeeps("the last place, a blank", NoSuchElementException.class, desk, () -> desk.reference(20, 0));
        Check.refusesAndKeeps("behind the text", NoSuchElementException.class, desk, () -> desk.reference(21, 0));
        for (int at : FAR) {
            Check.refusesAndKeeps("place " + at, NoSuchElementException.class, desk, () -> desk.reference(at, 0));
        }
        ProgramDesk faulty = Check.desk("fn f(a,a){print b+g();}fn f(){}");
        for (int at : new int[] {7, 16, 18, 26}) {
            Check.refusesAndKeeps("a name with a fault at " + at, NoSuchElementException.class, faulty, () -> faulty.reference(at, 0));
        }
    }

    private static void belowZero() {
        Check.sentence("NoSuchElementException when no token there is bound, or j is below 0.");
        ProgramDesk desk = Check.desk("fn main(n){print n;}");
        desk.run(5);
        Check.refusesAndKeeps("j -1", NoSuchElementException.class, desk, () -> desk.reference(8, -1));
        Check.refusesAndKeeps("j least", NoSuchElementException.class, desk, () -> desk.reference(8, Integer.MIN_VALUE));
        Check.refusesAndKeeps("j -1 of a sign", NoSuchElementException.class, desk, () -> desk.reference(7, -1));
        Check.is("j 0", desk.reference(8, 0), 8);
    }
}
