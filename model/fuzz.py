"""fuzz.py SEED RUNS [KIND]: holds runs by chance of the class against the model. Compile first: see README.md here."""
import os, subprocess, sys
import chance
from model import House

seed, runs = int(sys.argv[1]), int(sys.argv[2])
kinds = sys.argv[3:] or list(chance.G)
chance.rnd.seed(seed)
commands, due = [], []
for run in range(runs):
    house = House()
    commands.append('new')
    kind = chance.rnd.choice(kinds)
    for k in range(chance.rnd.choice([60, 150, 300])):
        request = chance.G[kind](k)
        if len(request) <= 2000:
            answer = house.ask(request)
            commands.append(request.hex())
            due.append((kind, request, answer.hex() + ' ' + ','.join(map(str, house.state()))))
    commands.append('dump')
    due.append((kind, b'dump', house.dump()))
out = os.path.join(os.path.dirname(os.path.abspath(__file__)), 'out')
done = subprocess.run(['java', '-cp', out, 'Drive'], input='\n'.join(commands) + '\n', capture_output=True, text=True)
print(done.stderr[:2000], end='')
got = done.stdout.split('\n')
wrong = 0
for i, (kind, request, want) in enumerate(due):
    if got[i:i + 1] != [want]:
        wrong += 1
        if wrong < 4:
            print('WRONG', kind, request, '\n  answered', got[i:i + 1], '\n  due is', want)
print('seed', seed, 'requests', len(due), 'wrong', wrong)
sys.exit(wrong > 0)
