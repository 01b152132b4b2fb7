import java.util.ArrayList;
import java.util.List;

/** Makes queries of at most 40 tokens, within the limits on brackets and parentheses. */
final class QueryMaker {
    private final Numbers numbers;
    private final List<Integer> tokens = new ArrayList<>();
    private int brackets;
    private int parens;

    QueryMaker(Numbers numbers) {
        this.numbers = numbers;
    }

    int[] query() {
        do {
            tokens.clear();
            brackets = 0;
            parens = 0;
            path();
        } while (tokens.size() > 40);
        return tokens.stream().mapToInt(Integer::intValue).toArray();
    }

    private void path() {
        do {
            tokens.add(20 + numbers.below(11));
            tokens.add(numbers.oneIn(3) ? 40 + numbers.below(4) : 48);
            while (brackets < 3 && tokens.size() < 36 && numbers.oneIn(2)) {
                predicate();
            }
        } while (tokens.size() < 36 && numbers.oneIn(3));
    }

    private void predicate() {
        tokens.add(1);
        brackets++;
        or();
        brackets--;
        tokens.add(2);
    }

    private void or() {
        not();
        while (tokens.size() < 36 && numbers.oneIn(3)) {
            tokens.add(5 + numbers.below(2));
            not();
        }
    }

    private void not() {
        while (numbers.oneIn(4)) {
            tokens.add(7);
        }
        switch (numbers.below(7)) {
            case 0:
                group();
                break;
            case 1:
                tokens.add(9);
                break;
            case 2:
                tokens.add(8);
                comparison(2000 + numbers.below(6));
                break;
            case 3:
                tokens.add(10);
                comparison(1995 + numbers.below(12));
                break;
            case 4:
                tokens.add(11);
                path();
                comparison(2000 + numbers.below(5));
                break;
            default:
                path();
        }
    }

    private void group() {
        if (parens == 4) {
            tokens.add(9);
            return;
        }
        tokens.add(3);
        parens++;
        or();
        parens--;
        tokens.add(4);
    }

    private void comparison(int number) {
        tokens.add(12 + numbers.below(3));
        tokens.add(number);
    }
}
