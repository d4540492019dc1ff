/** Terms: UNSET VARIABLES. */
final class UnsetSentences extends Sentences {
    /** Every OPERAND of every kind outside a SELECT's sections, as @. */
    private static final String[] READERS = {"IF @; END", "LOOP @; END", "SEND @ #1", "SEND #1 @", "RECV v0 @ v0", "CLOSE @", "PANIC @",
        "PRINT @", "SET v0 @", "ADD v0 @ #1", "ADD v0 #1 @", "SUB v0 @ #1", "SUB v0 #1 @", "MUL v0 @ #1", "MUL v0 #1 @",
        "DIV v0 @ #1", "DIV v0 #1 @", "LESS v0 @ #1", "LESS v0 #1 @", "SAME v0 @ #1", "SAME v0 #1 @", "SLEEP @",
        "GO 2 @ #1", "GO 2 #1 @", "CALL 2 @ #1", "CALL 2 #1 @", "DEFER 2 @ #1", "DEFER 2 #1 @"};
    /** The same inside a SELECT, which is what reads them. */
    private static final String[] SECTIONS = {"CASESEND @ #1", "CASESEND #1 @", "CASERECV v0 @ v0", "AFTER @"};
    private static final String FUNCTIONS = ";END; FUNC 1; END; FUNC 2; END";

    @Override
    void all() {
        lineByLine();
        atIf();
        atLoop();
        loopEnd();
        atSelect();
        pastEnd();
        deadEnds();
        values();
        wrongLines();
        readOperands();
        startsRead();
        setters();
        caseSets();
        selectReads();
    }

    private static void lineByLine() {
        about("UNSET VARIABLES: a way through a function goes from its FUNC line on, line by line,");
        inside(UNSET, 1, "PRINT v0; SET v0 #1");
        inside(OK, -1, "SET v0 #1; PRINT v0");
        check(UNSET, 4, "FUNC 0; SET v0 #1; END; FUNC 0; PRINT v0; END");
        check(UNSET, 3, "FUNC 2; END; FUNC 0; PRINT v0; END");
        // A function that nobody calls has its ways too, and no caller's variables come along.
        check(UNSET, 3, "FUNC 0; END; FUNC 0; PRINT v5; END");
        check(UNSET, 5, "FUNC 0; SET v3 #1; CALL 1; END; FUNC 0; PRINT v3; END");
        check(UNSET, 2, "FUNC 0; CALL 1; PRINT v3; END; FUNC 0; SET v3 #1; END");
    }

    private static void atIf() {
        about("at IF into both parts (without ELSE: or past the END),");
        inside(UNSET, 2, "IF #1; PRINT v0; END");
        inside(UNSET, 3, "IF #1; ELSE; PRINT v0; END");
        inside(UNSET, 4, "IF #1; SET v0 #1; ELSE; PRINT v0; END");
        inside(UNSET, 4, "IF #1; SET v0 #1; END; PRINT v0");
        inside(OK, -1, "SET v0 #1; IF #1; PRINT v0; ELSE; PRINT v0; END; PRINT v0");
        // With ELSE nothing leads past the END but the two parts.
        inside(OK, -1, "IF #1; SET v0 #1; ELSE; SET v0 #1; END; PRINT v0");
        inside(UNSET, 5, "IF #1; SET v0 #1; ELSE; END; PRINT v0");
        inside(UNSET, 5, "IF #1; ELSE; SET v0 #1; END; PRINT v0");
    }

    private static void atLoop() {
        about("at LOOP into the lines or past the END,");
        inside(UNSET, 2, "LOOP #1; PRINT v0; END");
        inside(UNSET, 3, "LOOP #1; END; PRINT v0");
        inside(UNSET, 4, "LOOP #1; SET v0 #1; END; PRINT v0");
        inside(OK, -1, "SET v0 #1; LOOP #1; PRINT v0; END; PRINT v0");
        inside(UNSET, 5, "LOOP #1; SET v0 #1; BREAK; END; PRINT v0");
    }

    private static void loopEnd() {
        about("from the END of a LOOP back to it,");
        // What a round sets does not help the LOOP line or the first round.
        inside(UNSET, 1, "LOOP v0; SET v0 #1; END");
        inside(UNSET, 2, "LOOP #1; PRINT v0; SET v0 #1; END");
        inside(OK, -1, "LOOP #1; SET v0 #1; PRINT v0; END");
    }

    private static void atSelect() {
        about("at SELECT into any of its sections,");
        inside(UNSET, 3, "SELECT; DEFAULT; PRINT v0; END");
        String[] sections = {"CASESEND #1 #1;", "CASERECV v4 #1 v5;", "CASESEND #2 #1;", "AFTER #1;"};
        for (int bad = 0; bad < 4; bad++) {
            String lines = "SELECT;";
            for (int i = 0; i < 4; i++) {
                lines += sections[i] + (i == bad ? "PRINT v0;" : "SET v0 #1; PRINT v0;");
            }
            inside(UNSET, 3 + 3 * bad, lines + "END");
        }
    }

    private static void pastEnd() {
        about("from the end of a part or section past the END;");
        inside(OK, -1, "IF #1; SET v0 #1; ELSE; SET v0 #2; END; PRINT v0");
        inside(OK, -1, "SELECT; DEFAULT; SET v0 #1; END; PRINT v0");
        // Not from the end of one part or section into the next.
        inside(UNSET, 4, "IF #1; SET v0 #1; ELSE; PRINT v0; END");
        inside(UNSET, 5, "SELECT; CASESEND #1 #1; SET v0 #1; DEFAULT; PRINT v0; END");
        // All sections must set it.
        String[] sections = {"CASESEND #1 #1;", "CASERECV v4 #1 v5;", "CASESEND #2 #1;", "DEFAULT;"};
        for (int without = 0; without <= 4; without++) {
            String lines = "SELECT;";
            for (int i = 0; i < 4; i++) {
                lines += sections[i] + (i == without ? "SET v1 #1;" : "SET v0 #1;");
            }
            inside(without < 4 ? UNSET : OK, without < 4 ? 11 : -1, lines + "END; PRINT v0");
        }
        inside(UNSET, 4, "SELECT; CASESEND #1 #1; END; PRINT v0");
        inside(UNSET, 3, "IF #1; END; PRINT v0");
    }

    private static void deadEnds() {
        about("not on from RETURN, PANIC, the END of the function, a SELECT without sections.");
        for (String end : new String[] {"RETURN", "PANIC #1", "SELECT; END"}) {
            inside(OK, -1, end + "; PRINT v0");
            inside(OK, -1, "IF #1;" + end + "; PRINT v0; ELSE; SET v0 #1; END; PRINT v0");
            inside(OK, -1, "IF #1; SET v0 #1; ELSE;" + end + "; END; PRINT v0");
            inside(OK, -1, "SELECT; CASESEND #1 #1;" + end + "; DEFAULT; SET v0 #1; END; PRINT v0");
            inside(OK, -1, "IF #1;" + end + "; ELSE;" + end + "; END; PRINT v0");
            inside(OK, -1, end + "; IF v0; PRINT v1; ELSE; PRINT v2; END; LOOP v3; BREAK; END; SELECT; AFTER v4; END; PRINT v5");
            int past = end.startsWith("SELECT") ? 5 : 4;
            inside(UNSET, past, "IF #1;" + end + "; END; PRINT v0");
            inside(UNSET, past, "LOOP #1;" + end + "; END; PRINT v0");
        }
        // One with a section is no dead end.
        inside(UNSET, 4, "SELECT; CASESEND #1 #1; END; PRINT v0");
        // The next function begins with nothing from the one before.
        check(UNSET, 4, "FUNC 0; SET v0 #1; END; FUNC 0; PRINT v0; END");
        check(UNSET, 4, "FUNC 0; RETURN; END; FUNC 0; PRINT v0; END");
        check(OK, -1, "FUNC 1; RETURN; END; FUNC 1; PRINT v0; END");
    }

    private static void values() {
        about("Values don't matter.");
        inside(UNSET, 2, "IF #0; PRINT v0; END");
        inside(UNSET, 3, "IF #1; ELSE; PRINT v0; END");
        inside(UNSET, 2, "LOOP #0; PRINT v0; END");
        inside(UNSET, 4, "LOOP #1; SET v0 #1; END; PRINT v0");
        inside(UNSET, 4, "IF #1; SET v0 #1; END; PRINT v0");
        inside(UNSET, 4, "SELECT; DEFAULT; CASESEND #0 #1; PRINT v0; END");
    }

    private static void wrongLines() {
        about("A line is wrong if some way reaches it on which a VAR that it reads");
        // One way is enough; the first wrong line is told.
        inside(UNSET, 8, "IF #1; SET v0 #1; ELSE; IF #1; SET v0 #1; END; END; PRINT v0");
        inside(OK, -1, "IF #1; SET v0 #1; ELSE; IF #1; SET v0 #1; ELSE; RETURN; END; END; PRINT v0");
        inside(UNSET, 2, "SET v0 #1; PRINT v1; PRINT v2");
        inside(UNSET, 2, "SET v0 #1; SEND v0 v1; PRINT v2");
        about("was set by no line before and is no parameter.");
        for (int v = 0; v < 6; v++) {
            for (int parameters = 0; parameters <= 2; parameters++) {
                check(v < parameters ? OK : UNSET, v < parameters ? -1 : 1, "FUNC " + parameters + "; PRINT v" + v + "; END");
            }
            for (int w = 0; w < 6; w++) {
                inside(v == w ? OK : UNSET, v == w ? -1 : 2, "SET v" + w + " #1; PRINT v" + v);
            }
        }
    }

    private static void readOperands() {
        about("(as an OPERAND that names a variable;");
        for (String reader : READERS) {
            for (int operand : new int[] {0, 1, 2, 3, 4, 5}) {
                check(UNSET, 1, "FUNC 0;" + reader.replace("@", "" + operand) + FUNCTIONS);
                check(OK, -1, "FUNC 0; SET v" + operand + " #1;" + reader.replace("@", "" + operand) + FUNCTIONS);
                check(UNSET, 2, "FUNC 0; SET v" + (operand + 1) % 6 + " #1;" + reader.replace("@", "" + operand) + FUNCTIONS);
            }
            for (int operand : new int[] {LEAST, -6, -1, 6, 7, MOST}) {
                check(OK, -1, "FUNC 0;" + reader.replace("@", "" + operand) + FUNCTIONS);
            }
        }
    }

    private static void startsRead() {
        about("GO, CALL, DEFER read b if the function has a parameter, and c if it has two)");
        for (String start : new String[] {"GO", "CALL", "DEFER"}) {
            for (int parameters = 0; parameters <= 2; parameters++) {
                String rest = "; END; FUNC " + parameters + "; END";
                check(parameters > 0 ? UNSET : OK, parameters > 0 ? 1 : -1, "FUNC 0;" + start + " 1 v3 #1" + rest);
                check(parameters > 1 ? UNSET : OK, parameters > 1 ? 1 : -1, "FUNC 0;" + start + " 1 #1 v3" + rest);
                check(OK, -1, "FUNC 0;" + start + " 1 #1 #1" + rest);
                check(OK, -1, "FUNC 0; SET v3 #1; SET v4 #1;" + start + " 1 v3 v4" + rest);
            }
            // The number of the called function is no OPERAND.
            check(OK, -1, "FUNC 0;" + start + " 5 #1 #1; END;" + "FUNC 0; END;".repeat(5));
        }
    }

    private static void setters() {
        about("RECV and MAKE, RECOVER, SET and the kinds 22 to 27 set VAR a (after reading), RECV also VAR c;");
        String[] setters = {"RECV @ #1 v0", "RECV v0 #1 @", "MAKE @ 3", "RECOVER @", "SET @ #1", "ADD @ #1 #1", "SUB @ #1 #1", "MUL @ #1 #1",
            "DIV @ #1 #1", "LESS @ #1 #1", "SAME @ #1 #1"};
        for (String setter : setters) {
            for (int v = 1; v < 6; v++) {
                inside(OK, -1, setter.replace("@", "v" + v) + "; PRINT v" + v);
                inside(UNSET, 2, setter.replace("@", "v" + v) + "; PRINT v" + (v % 5 + 1));
                inside(UNSET, 1, "PRINT v" + v + ";" + setter.replace("@", "v" + v));
            }
        }
        String[] readsFirst = {"RECV v3 v3 v4", "RECV v4 v3 v3", "SET v3 v3", "ADD v3 v3 #1", "ADD v3 #1 v3", "SUB v3 v3 #1", "MUL v3 #1 v3",
            "DIV v3 v3 #1", "LESS v3 v3 #1", "SAME v3 #1 v3"};
        for (String line : readsFirst) {
            inside(UNSET, 1, line);
            inside(OK, -1, "SET v3 #1;" + line);
        }
        // No other kind sets anything.
        String[] others = {"IF #1; END", "LOOP #1; END", "SELECT; DEFAULT; END", "SELECT; AFTER #1; END", "SELECT; CASESEND #1 #1; END",
            "SEND #1 #1", "CLOSE #1", "GO 0", "CALL 0", "DEFER 0", "PRINT #1", "SLEEP #1"};
        for (String line : others) {
            int next = 2 + line.replaceAll("[^;]", "").length();
            inside(UNSET, next, line + "; PRINT v0");
        }
    }

    private static void caseSets() {
        about("a CASERECV sets them where its section begins;");
        inside(OK, -1, "SELECT; CASERECV v3 #1 v4; PRINT v3; PRINT v4; END");
        inside(UNSET, 3, "SELECT; CASERECV v3 #1 v4; PRINT v5; END");
        inside(OK, -1, "SELECT; CASERECV v3 #1 v4; END; PRINT v3; PRINT v4");
        inside(UNSET, 4, "SELECT; CASERECV v3 #1 v4; DEFAULT; PRINT v3; END");
        inside(UNSET, 4, "SELECT; CASERECV v3 #1 v4; DEFAULT; PRINT v4; END");
        inside(UNSET, 3, "SELECT; DEFAULT; PRINT v3; CASERECV v3 #1 v4; END");
        inside(UNSET, 5, "SELECT; CASERECV v3 #1 v4; DEFAULT; END; PRINT v3");
        inside(UNSET, 1, "SELECT; CASERECV v3 #1 v4; CASESEND #1 v3; END");
    }

    private static void selectReads() {
        about("SELECT reads all OPERANDs of its CASE and AFTER lines (those lines themselves read nothing).");
        for (String section : SECTIONS) {
            for (int operand = 0; operand < 6; operand++) {
                String read = section.replace("@", "" + operand);
                inside(UNSET, 1, "SELECT;" + read + "; END");
                inside(OK, -1, "SET v" + operand + " #1; SELECT;" + read + "; END");
                // Setting it inside a section comes too late, whichever section reads it.
                inside(UNSET, 1, "SELECT; CASESEND #1 #1; SET v" + operand + " #1;" + read + "; END");
                inside(UNSET, 3, "SET v" + (operand + 1) % 6 + " #1; PRINT #1; SELECT; CASESEND #1 #1; CASESEND #1 #1;" + read + "; END");
            }
            for (int operand : new int[] {LEAST, -1, 6, MOST}) {
                inside(OK, -1, "SELECT;" + section.replace("@", "" + operand) + "; END");
            }
            // A SELECT that is not reached reads nothing; an inner one reads for itself.
            inside(OK, -1, "RETURN; SELECT;" + section.replace("@", "v3") + "; END");
            inside(UNSET, 3, "SELECT; DEFAULT; SELECT;" + section.replace("@", "v3") + "; END; END");
            inside(OK, -1, "SELECT; DEFAULT; SET v3 #1; SELECT;" + section.replace("@", "v3") + "; END; END");
        }
        // DEFAULT has no OPERAND.
        inside(OK, -1, "SELECT; DEFAULT v3; END");
    }
}
