/** Counts the answers that are not as due. */
final class Check {
    private static int asked = 0;
    private static int wrong = 0;
    private static int sentences = 0;
    private static int askedBefore = 0;
    private static String about = "";

    private Check() {
    }

    /** The sentence of the document that the next answers are about; at least one must follow. */
    static void sentence(String text) {
        closeSentence();
        about = "\"" + text + "\": ";
        sentences++;
        askedBefore = asked;
    }

    private static void closeSentence() {
        if (sentences > 0 && asked == askedBefore) {
            wrong++;
            System.out.println(about + "nothing was asked");
        }
    }

    static void due(String what, int got, int want) {
        asked++;
        if (got != want) {
            wrong++;
            if (wrong <= 40) {
                System.out.println(about + what + " answered " + got + ", due is " + want);
            }
        }
    }

    static void due(String what, boolean got, boolean want) {
        due(what, got ? 1 : 0, want ? 1 : 0);
    }

    static boolean allRight() {
        return wrong == 0;
    }

    /** Ends the program: with exit code 1 if an answer was wrong or none was asked for. */
    static void finish() {
        closeSentence();
        String over = sentences > 0 ? " for " + sentences + " sentences" : "";
        System.out.println(asked + " answers" + over + ", " + wrong + " wrong");
        if (wrong != 0 || asked == 0) {
            System.exit(1);
        }
    }
}
