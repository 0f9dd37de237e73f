import java.util.List;

/** Counts the answers that are not the ones that are due, and makes surfaces from texts. */
final class Due {
    private int wrong = 0;
    private int asked = 0;

    void is(String call, long got, long want) {
        asked++;
        if (got != want) {
            wrong++;
            if (wrong <= 50) {
                System.out.println(call + " answered " + got + ", due is " + want);
            }
        }
    }

    void holds(String what, boolean so) {
        is(what, so ? 1 : 0, 1);
    }

    void end() {
        System.out.println(asked + " answers, " + wrong + " of them not as due");
        if (wrong > 0 || asked == 0) {
            System.exit(1);
        }
    }

    static void tell(SquareFolds folds, String text) {
        folds.wipe();
        for (int i = 0; i < text.length(); i++) {
            folds.write(text.charAt(i));
        }
    }

    static SquareFolds surface(String text) {
        SquareFolds folds = new SquareFolds();
        tell(folds, text);
        if (folds.surface() < 0) {
            System.out.println(text + " is no surface");
            System.exit(1);
        }
        return folds;
    }

    /** All rows of figures 0 .. n less 1, each once. */
    static List<String> rows(int n) {
        List<String> rows = List.of("");
        for (int length = 0; length < n; length++) {
            List<String> longer = new java.util.ArrayList<>();
            for (String row : rows) {
                for (char figure = '0'; figure < '0' + n; figure++) {
                    if (row.indexOf(figure) < 0) {
                        longer.add(row + figure);
                    }
                }
            }
            rows = longer;
        }
        return rows;
    }
}
