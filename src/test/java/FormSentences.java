/** Terms: FORM. */
final class FormSentences extends Sentences {
    private static final String[] SECTIONS = {"CASESEND #1 #1", "CASERECV v0 #1 v1", "DEFAULT", "AFTER #1"};
    private static final String[] CASES = {"CASESEND #1 #1;", "CASERECV v0 #1 v1;"};
    private static final String[] ALTERNATIVES = {"DEFAULT;", "AFTER #1;"};
    /** Whole pieces of every kind that stands anywhere inside a function. */
    private static final String[] PIECES = {"IF #0; END", "LOOP #0; END", "SELECT; DEFAULT; END", "SEND #1 #1", "RECV v0 #1 v0",
        "CLOSE #1", "MAKE v0 0", "GO 0", "CALL 0", "DEFER 0", "RETURN", "PANIC #1", "RECOVER v0", "PRINT #1", "SET v0 #1",
        "ADD v0 #1 #1", "SUB v0 #1 #1", "MUL v0 #1 #1", "DIV v0 #1 #1", "LESS v0 #1 #1", "SAME v0 #1 #1", "SLEEP #1"};

    @Override
    void all() {
        functions();
        function();
        nesting();
        ifs();
        loopsAndSelects();
        sections();
        noSections();
        threeCases();
        oneAlternative();
        breaks();
        breakLeaves();
        anywhere();
    }

    private static void functions() {
        about("FORM: a program is one function or more.");
        check(FORM, 0, "");
        check(OK, -1, "FUNC 0; END");
        check(OK, -1, "FUNC 0; END; FUNC 0; END");
        check(OK, -1, "FUNC 0; END;".repeat(30));
    }

    private static void function() {
        about("A function is FUNC, lines, END.");
        check(FORM, 1, "FUNC 0");
        check(OK, -1, "FUNC 0; END");
        check(OK, -1, "FUNC 0; PRINT #1; END");
        check(OK, -1, "FUNC 0;" + "PRINT #1;".repeat(58) + "END");
        check(FORM, 60, "FUNC 0;" + "PRINT #1;".repeat(59));
        check(FORM, 59, "FUNC 0; END;".repeat(29) + "FUNC 0");
        for (int kind = 1; kind < 30; kind++) {
            Counted x = new Counted();
            x.line(kind, 0, 0, 0);
            due("check() that begins with " + kind, FORM, x.check());
            look(x, "badLine=0");
            Counted y = Program.fed("FUNC 0; END");
            y.line(kind, 0, 0, 0);
            due("check() with " + kind + " after the function", FORM, y.check());
            look(y, "badLine=2");
        }
        check(FORM, 1, "FUNC 0; FUNC 0; END; END");
        check(FORM, 2, "FUNC 0; PRINT #1; FUNC 0; END");
        check(FORM, 2, "FUNC 0; IF #1; FUNC 0; END; END; END");
        check(FORM, 3, "FUNC 0; IF #1; ELSE; FUNC 0; END; END; END");
        check(FORM, 2, "FUNC 0; LOOP #1; FUNC 0; END; END; END");
        check(FORM, 2, "FUNC 0; SELECT; FUNC 0; END; END; END");
        check(FORM, 3, "FUNC 0; SELECT; DEFAULT; FUNC 0; END; END; END");
    }

    private static void nesting() {
        about("Lines nest:");
        check(OK, -1, "FUNC 0;" + "IF #0;".repeat(29) + "END;".repeat(30));
        check(FORM, 60, "FUNC 0;" + "IF #0;".repeat(30) + "END;".repeat(29));
        check(FORM, 58, "FUNC 0;" + "IF #0;".repeat(28) + "END;".repeat(31));
        check(OK, -1, "FUNC 0;" + "LOOP #0;".repeat(29) + "END;".repeat(30));
        check(OK, -1, "FUNC 0;" + "SELECT; DEFAULT;".repeat(19) + "END;".repeat(20));
        check(FORM, 60, "FUNC 0;" + "IF #0;".repeat(59));
    }

    private static void ifs() {
        about("IF lines END, IF lines ELSE lines END,");
        inside(OK, -1, "IF #1; END");
        inside(OK, -1, "IF #1; PRINT #1; END");
        inside(OK, -1, "IF #1; ELSE; END");
        inside(OK, -1, "IF #1; PRINT #1; ELSE; PRINT #1; END");
        inside(FORM, 3, "IF #1; ELSE; ELSE; END");
        inside(FORM, 5, "IF #1; ELSE; IF #1; END; ELSE; END");
        inside(OK, -1, "IF #1; IF #1; ELSE; END; ELSE; IF #1; ELSE; END; END");
        inside(FORM, 3, "IF #1; END; ELSE; END");
        inside(FORM, 1, "ELSE; END");
        inside(FORM, 2, "LOOP #1; ELSE; END");
        inside(FORM, 3, "IF #1; LOOP #1; ELSE; END; END");
        inside(FORM, 3, "IF #1; SELECT; ELSE; END; END");
        inside(FORM, 4, "IF #1; SELECT; DEFAULT; ELSE; END; END");
        check(FORM, 3, "FUNC 0; IF #1; END");
        check(FORM, 4, "FUNC 0; IF #1; ELSE; END");
    }

    private static void loopsAndSelects() {
        about("LOOP lines END, SELECT sections END;");
        inside(OK, -1, "LOOP #0; END");
        inside(OK, -1, "LOOP #0; PRINT #1; END");
        check(FORM, 3, "FUNC 0; LOOP #0; END");
        inside(OK, -1, "SELECT; DEFAULT; END");
        check(FORM, 4, "FUNC 0; SELECT; DEFAULT; END");
        for (String piece : PIECES) {
            inside(FORM, 2, "SELECT; " + piece + "; END");
            inside(FORM, 2, "SELECT; " + piece + "; DEFAULT; END");
        }
        inside(FORM, 3, "LOOP #0; SELECT; BREAK; END; END");
    }

    private static void sections() {
        about("a section is CASESEND, CASERECV, DEFAULT or AFTER and the lines after it up to the next section or the END;");
        for (String section : SECTIONS) {
            inside(OK, -1, "SELECT;" + section + "; END");
            inside(OK, -1, "SELECT;" + section + "; PRINT #1; PRINT #2; END");
            inside(OK, -1, "SELECT;" + section + "; CASESEND #1 #1; PRINT #1; END");
            inside(FORM, 1, section);
            inside(FORM, 2, "IF #1;" + section + "; END");
            inside(FORM, 2, "LOOP #1;" + section + "; END");
            inside(FORM, 4, "SELECT; CASESEND #1 #1; IF #1;" + section + "; END; END");
            inside(FORM, 5, "SELECT; CASESEND #1 #1; IF #1; ELSE;" + section + "; END; END");
            inside(FORM, 4, "SELECT; CASESEND #1 #1; LOOP #1;" + section + "; END; END");
            inside(FORM, 3, "SELECT; END;" + section);
            inside(OK, -1, "SELECT; CASESEND #1 #1; IF #1; END;" + section + "; END");
        }
        // The lines of a section are not those of the next one.
        ends(EXITED, "2", "FUNC 0; MAKE v0 1; SELECT; CASERECV v1 v0 v2; PRINT #1; CASESEND v0 #1; PRINT #2; DEFAULT; PRINT #3; END; END");
        ends(EXITED, "4", "FUNC 0; MAKE v0 1; SELECT; CASERECV v1 v0 v2; PRINT #1; CASESEND v0 #1; DEFAULT; PRINT #3; END; PRINT #4; END");
    }

    private static void noSections() {
        about("a SELECT may be without sections,");
        inside(OK, -1, "SELECT; END");
        inside(OK, -1, "SELECT; DEFAULT; SELECT; END; END");
    }

    private static void threeCases() {
        about("has at most 3 CASE sections (of both kinds)");
        for (int mix = 0; mix < 16; mix++) {
            String three = CASES[mix & 1] + CASES[mix >> 1 & 1] + CASES[mix >> 2 & 1];
            String fourth = CASES[mix >> 3];
            inside(OK, -1, "SELECT;" + three + "END");
            inside(FORM, 5, "SELECT;" + three + fourth + "END");
            inside(FORM, 6, "SELECT; DEFAULT;" + three + fourth + "END");
            inside(FORM, 6, "SELECT;" + three + "AFTER #1;" + fourth + "END");
            inside(FORM, 6, "SELECT;" + three + "PRINT #1;" + fourth + "END");
            // A SELECT inside or beside it has its own three.
            inside(OK, -1, "SELECT;" + three + "SELECT;" + three + "END; END; SELECT;" + three + "END");
            inside(FORM, 9, "SELECT;" + three + "SELECT;" + three + fourth + "END; END");
            inside(FORM, 9, "SELECT;" + three + "SELECT;" + CASES[0] + CASES[1] + "END;" + fourth + "END");
        }
    }

    private static void oneAlternative() {
        about("and at most one of DEFAULT and AFTER.");
        String cases = CASES[0] + CASES[1] + CASES[0];
        for (String one : ALTERNATIVES) {
            inside(OK, -1, "SELECT;" + one + "END");
            inside(OK, -1, "SELECT;" + cases + one + "END");
            inside(OK, -1, "SELECT;" + one + cases + "END");
            inside(OK, -1, "SELECT;" + CASES[0] + one + CASES[1] + "END");
            for (String two : ALTERNATIVES) {
                inside(FORM, 3, "SELECT;" + one + two + "END");
                inside(FORM, 4, "SELECT;" + one + "PRINT #1;" + two + "END");
                inside(FORM, 4, "SELECT;" + one + CASES[0] + two + "END");
                inside(FORM, 6, "SELECT;" + cases + one + two + "END");
                inside(OK, -1, "SELECT;" + one + "SELECT;" + two + "END; END; SELECT;" + two + "END");
                inside(FORM, 6, "SELECT;" + one + "SELECT;" + two + "END;" + two + "END");
            }
        }
    }

    private static void breaks() {
        about("BREAK stands only inside a LOOP of the same function");
        inside(FORM, 1, "BREAK");
        inside(OK, -1, "LOOP #1; BREAK; END");
        inside(FORM, 3, "LOOP #1; END; BREAK");
        inside(FORM, 1, "BREAK; LOOP #1; END");
        inside(FORM, 2, "IF #1; BREAK; END");
        inside(FORM, 3, "SELECT; DEFAULT; BREAK; END");
        inside(OK, -1, "LOOP #1; IF #1; BREAK; ELSE; BREAK; END; END");
        inside(OK, -1, "LOOP #1; SELECT; DEFAULT; BREAK; CASESEND #1 #1; BREAK; END; END");
        inside(OK, -1, "IF #1; LOOP #1; BREAK; END; END");
        inside(FORM, 4, "IF #1; LOOP #1; END; BREAK; END");
        inside(OK, -1, "LOOP #1; LOOP #1; BREAK; END; BREAK; END");
        inside(FORM, 6, "LOOP #1; LOOP #1; BREAK; END; END; BREAK");
        check(FORM, 5, "FUNC 0; LOOP #1; END; END; FUNC 0; BREAK; END");
        check(FORM, 1, "FUNC 0; BREAK; END; FUNC 0; LOOP #1; END; END");
    }

    private static void breakLeaves() {
        about("(it leaves the nearest LOOP, out of a SELECT too).");
        ends(EXITED, "1 9", "FUNC 0; LOOP #1; PRINT #1; BREAK; PRINT #2; END; PRINT #9; END");
        // So no way leads on from it to the next line, and one leads past the END.
        inside(OK, -1, "LOOP #1; BREAK; PRINT v0; END");
        inside(OK, -1, "LOOP #1; BREAK; END; RETURN; PRINT v0");
        inside(UNSET, 4, "LOOP #1; BREAK; END; PRINT v0");
        ends(EXITED, "1 3 9", "FUNC 0; LOOP #1; LOOP #1; PRINT #1; BREAK; PRINT #2; END; PRINT #3; BREAK; END; PRINT #9; END");
        ends(EXITED, "1 9", "FUNC 0; LOOP #1; SELECT; DEFAULT; PRINT #1; BREAK; PRINT #2; END; PRINT #3; END; PRINT #9; END");
        ends(EXITED, "1 9", "FUNC 0; LOOP #1; IF #1; SELECT; DEFAULT; IF #1; PRINT #1; BREAK; END; END; END; PRINT #3; END; PRINT #9; END");
        ends(EXITED, "1 3 9", "FUNC 0; LOOP #1; SELECT; DEFAULT; LOOP #1; PRINT #1; BREAK; END; PRINT #3; BREAK; END; PRINT #4; END; PRINT #9; END");
    }

    private static void anywhere() {
        about("Everything else stands anywhere inside a function.");
        for (String piece : PIECES) {
            inside(OK, -1, piece);
            inside(OK, -1, "IF #1;" + piece + "; ELSE;" + piece + "; END;" + piece);
            inside(OK, -1, "LOOP #1;" + piece + "; END;" + piece);
            for (String section : SECTIONS) {
                inside(OK, -1, "SELECT;" + section + ";" + piece + "; END");
            }
        }
    }
}
