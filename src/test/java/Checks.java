import java.util.List;

/** What the tests share: counting wrong answers, and programs written as text. */
final class Checks {
    static final List<String> KINDS = List.of(
        "set", "use", "if", "else", "loop", "always", "end", "break", "continue", "return");

    private int wrong = 0;

    void due(String call, long got, long want) {
        if (got != want) {
            wrong++;
            System.out.println(call + " answered " + got + ", due is " + want);
        }
    }

    void due(String call, boolean got, boolean want) {
        due(call, got ? 1 : 0, want ? 1 : 0);
    }

    void finish() {
        System.out.println(wrong == 0 ? "all answers are as due" : wrong + " answers are not as due");
        if (wrong != 0) {
            System.exit(1);
        }
    }

    /** A program of words with blanks between them, such as "set0 if use0 end". */
    static DefiniteUse program(String text) {
        DefiniteUse x = new DefiniteUse();
        if (text.isEmpty()) {
            return x;
        }
        for (String word : text.split(" +")) {
            boolean named = word.startsWith("set") || word.startsWith("use");
            int kind = KINDS.indexOf(named ? word.substring(0, 3) : word);
            int variable = named ? Integer.parseInt(word.substring(3)) : 0;
            if (kind < 0 || x.add(kind, variable) < 0) {
                throw new IllegalArgumentException(text);
            }
        }
        return x;
    }
}
