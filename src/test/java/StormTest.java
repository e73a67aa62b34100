/** All promises: random runs, compared with the Model. Arguments: the first seed, how many, calls a run. */
public final class StormTest {
    public static void main(String[] args) {
        long first = args.length > 0 ? Long.parseLong(args[0]) : 1;
        int runs = args.length > 1 ? Integer.parseInt(args[1]) : 300;
        int calls = args.length > 2 ? Integer.parseInt(args[2]) : 60;
        int wrong = 0;
        for (long seed = first; seed < first + runs && wrong < 3; seed++) {
            String difference = Storm.run(seed, calls, seed % 4 == 0);
            if (difference != null) {
                wrong++;
                System.out.println(difference);
            }
        }
        System.out.println(wrong == 0 ? runs + " runs are as the model's" : wrong + " runs are not as the model's");
        if (wrong != 0) {
            System.exit(1);
        }
    }
}
