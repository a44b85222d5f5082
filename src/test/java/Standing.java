/** Brokers that can be built alike again and again, from untouched to every limit reached. */
enum Standing {
    NEW {
        @Override
        void build(TopicBroker x) {
        }
    },
    USED {
        @Override
        void build(TopicBroker x) {
            x.subscribe(0, Check.list(0), 0);
            x.subscribe(0, Check.list(Check.ONE, 1), 2);
            x.subscribe(0, Check.list(2, Check.REST), 1);
            x.subscribe(1, Check.list(Check.REST), 1);
            x.subscribe(2, Check.list(0), 2);
            x.subscribe(3, Check.list(3, 3), 2);
            x.keep(Check.list(2, 2), 201);
            x.keep(Check.list(0), -202);
            x.keep(Check.list(4, 4, 4, 4), 203);
            x.publish(Check.list(0), 101, 2);
            x.publish(Check.list(3, 1), -102, 2);
            x.connect(1, 0);
            x.publish(Check.list(2), 103, 1);
            x.unsubscribe(2, Check.list(0));
            for (int i = 0; i < 14; i++) {
                x.publish(Check.list(3, 3), 110 + i, i % 3);
            }
        }
    },
    OFFLINE {
        @Override
        void build(TopicBroker x) {
            for (int c = 0; c < 4; c++) {
                x.subscribe(c, Check.list(Check.REST), c % 3);
                x.publish(Check.list(c), 120 + c, 1);
                x.connect(c, 0);
            }
            x.keep(Check.list(1, 1), 204);
        }
    },
    FULL {
        @Override
        void build(TopicBroker x) {
            for (int c = 0; c < 4; c++) {
                for (int i = 0; i < 5; i++) {
                    x.subscribe(c, FIVE[i], (c + i) % 3);
                }
            }
            for (int i = 0; i < 8; i++) {
                x.keep(Check.list(i / 4, i % 4), 210 + i);
            }
            for (int i = 0; i < 13; i++) {
                x.publish(Check.list(0, i % 5), 130 + i, i % 3);
            }
            x.connect(2, 0);
            x.publish(Check.list(1), 150, 2);
        }
    };

    /** What every client has in the standing FULL. */
    static final int[] FIVE = {
        Check.list(0), Check.list(0, Check.ONE), Check.list(1, Check.REST), Check.list(Check.ONE, Check.REST),
        Check.list(4, 4, 4, 4)};

    /** Every filter that a standing subscribes to, and some that none does. */
    static final int[] FILTERS = {
        Check.list(0), Check.list(0, Check.ONE), Check.list(1, Check.REST), Check.list(Check.ONE, Check.REST),
        Check.list(4, 4, 4, 4), Check.list(Check.ONE, 1), Check.list(2, Check.REST), Check.list(Check.REST),
        Check.list(3, 3), Check.list(1), Check.list(Check.ONE)};

    private String untouched = "";

    abstract void build(TopicBroker x);

    TopicBroker make() {
        TopicBroker x = new TopicBroker();
        build(x);
        return x;
    }

    /** What a broker in this standing shows if nothing was done with it since. */
    String untouched() {
        if (untouched.isEmpty()) {
            untouched = Shown.of(make());
        }
        return untouched;
    }
}
