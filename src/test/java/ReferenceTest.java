import java.util.NoSuchElementException;

/** Promises 9 (what a token is bound to) and 12: reference. */
final class ReferenceTest {
    public static void main(String[] args) {
        parametersAndLets();
        shadows();
        functions();
        unbound();
        wrongQuestions();
        Check.finish();
    }

    /** All references of the token at a place, up to the first NONE. */
    private static String references(String text, int at) {
        ProgramDesk desk = Check.desk(text);
        StringBuilder places = new StringBuilder();
        for (int j = 0; desk.reference(at, j) != ProgramDesk.NONE; j++) {
            places.append(j == 0 ? "" : " ").append(desk.reference(at, j));
        }
        return places.toString();
    }

    private static void due(String text, int at, String places) {
        Check.is("references at " + at + " of " + text, references(text, at), places);
    }

    private static void none(String text, int at) {
        ProgramDesk desk = Check.desk(text);
        Check.refuses("reference at " + at + " of " + text, NoSuchElementException.class, () -> desk.reference(at, 0));
    }

    private static void parametersAndLets() {
        due("fn f(a,b){a=b;print a*b;}", 5, "5 10 20");
        due("fn f(a,b){a=b;print a*b;}", 22, "7 12 22");
        due("fn f(){let ab=1; ab = ab+2;}", 23, "11 17 22");
        due("fn f(a){let a=a;print a;}", 5, "5 14");
        due("fn f(a){let a=a;print a;}", 22, "12 22");
        ProgramDesk desk = Check.desk("fn f(a){let a=a;print a;}");
        Check.is("a parameter is bound to itself", desk.token(3, 3), 3);
        Check.is("a let is bound to itself", desk.token(7, 3), 7);
        Check.is("the let's expression means the parameter", desk.token(9, 3), 3);
        Check.is("behind the let, its variable is meant", desk.token(12, 3), 7);
        Check.is("a keyword is not bound", desk.token(6, 3), ProgramDesk.NONE);
    }

    private static void shadows() {
        String text = "fn f(a){print a;{print a;let a=2;print a;{a=3;let a=4;}a=5;}print a;}";
        due(text, 5, "5 14 23 66");
        due(text, 29, "29 39 42 55");
        due(text, 50, "50");
        due("fn f(){{let a=1;}{let a=2;print a;}}", 22, "22 32");
        due("fn f(a){while a{let a=a-1;print a;}}", 5, "5 14 22");
        due("fn f(a){if 1{{a=1;}let a=2;{{a=3;}}}}", 23, "23 29");
        due("fn f(){let a=1;let b=a;}fn g(a){print a;}", 11, "11 21");
    }

    private static void functions() {
        String text = "fn f(f){print f(f)+g(1);}fn g(x){return f(g(x));}";
        due(text, 3, "3 14 40");
        due(text, 5, "5 16");
        due(text, 19, "19 28 42");
        due("fn f(){}fn f(){print f();}", 21, "3 21");
        due("fn f(a){}fn g(){print f();}", 22, "3 22");
    }

    private static void unbound() {
        none("fn f(){}fn f(){}", 11);
        none("fn f(a,a){}", 7);
        due("fn f(a,a){print a;}", 16, "5 16");
        due("fn f(){let a=1;let a=2;print a;}", 29, "11 29");
        none("fn f(){let a=1;let a=2;print a;}", 19);
        none("fn f(){print a;}", 13);
        none("fn f(){print g();}", 13);
        none("fn f(a){print a;", 5);
        none("fn f(a){print a;", 3);
        none("a", 0);
        ProgramDesk desk = Check.desk("fn f(a){print a;");
        for (int k = 0; k < desk.tokens(); k++) {
            Check.is("bound in a broken part, token " + k, desk.token(k, 3), ProgramDesk.NONE);
        }
        desk.type('}');
        Check.is("bound when the part is whole", desk.token(7, 3), 3);
    }

    private static void wrongQuestions() {
        ProgramDesk desk = Check.desk("fn f( ab ){print ab;}");
        Check.is("at the last character", desk.reference(7, 0), 6);
        Check.is("the second one", desk.reference(6, 1), 17);
        Check.is("there are not so many", desk.reference(6, 2), ProgramDesk.NONE);
        Check.is("far from so many", desk.reference(6, Integer.MAX_VALUE), ProgramDesk.NONE);
        Check.refuses("j below 0", NoSuchElementException.class, () -> desk.reference(6, -1));
        Check.refuses("a blank", NoSuchElementException.class, () -> desk.reference(5, 0));
        Check.refuses("behind it", NoSuchElementException.class, () -> desk.reference(8, 0));
        Check.refuses("a sign", NoSuchElementException.class, () -> desk.reference(4, 0));
        Check.refuses("a keyword", NoSuchElementException.class, () -> desk.reference(0, 0));
        Check.refuses("before the text", NoSuchElementException.class, () -> desk.reference(-1, 0));
        Check.refuses("behind the text", NoSuchElementException.class, () -> desk.reference(21, 0));
    }
}
